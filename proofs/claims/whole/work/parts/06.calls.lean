theorem uw_goodL {y : MethodName} {b : ByteArray} {n : Nat} {r : Option FieldType} (hc : Cond.code y b n r ∈ wsL_law) : GoodIn wsL_law (uw y b n r) := by
  intro w hw
  rcases List.mem_cons.mp hw with h | h
  · subst h
    exact ⟨hc, uGood _ hc⟩
  · exact ⟨h, uGood _ h⟩
/-- what the tables say of a called method -/
def mFix (y : MethodName) (b : ByteArray) (n : Nat) (r : Option FieldType) (k : Nat) : Prop := Cond.code y b n r ∈ wsL_law ∧ Cond.initialized y.cls ∈ wsL_law ∧ (y.cls ≠ "java/lang/invoke/MethodHandle" ∧ y.cls ≠ "java/lang/invoke/VarHandle" ∧ (parseMethodDescriptor y.desc).map (fun d => d.parameters.length) = some k)
def mVirt (y : MethodName) : Prop := Cond.instanceMethod y ∈ wsL_law ∧ Cond.selects y.cls y y ∈ wsL_law
theorem wL_obj {g : GG} {mc mm : Mem} {k ci : Nat} (hk : k < 131) (hkd : kd k = ci) (hci : ci < 11) : ∃ fs, (wL g mc mm)[k]? = some (g.1 k, .inr (ci, fs)) := by
  have key : ∀ f : Nat → Int32, ∃ fs, wE g k f = .inr (ci, fs) := by
    intro f
    rcases (by omega : ci = 0 ∨ ci = 1 ∨ ci = 2 ∨ ci = 3 ∨ ci = 4 ∨ ci = 5 ∨ ci = 6 ∨ ci = 7 ∨ ci = 8 ∨ ci = 9 ∨ ci = 10) with h | h | h | h | h | h | h | h | h | h | h <;> subst h
    · exact ⟨_, wE_0 hkd⟩
    · exact ⟨_, wE_1 hkd⟩
    · exact ⟨_, wE_2 hkd⟩
    · exact ⟨_, wE_3 hkd⟩
    · exact ⟨_, wE_4 hkd⟩
    · exact ⟨_, wE_5 hkd⟩
    · exact ⟨_, wE_6 hkd⟩
    · exact ⟨_, wE_7 hkd⟩
    · exact ⟨_, wE_8 hkd⟩
    · exact ⟨_, wE_9 hkd⟩
    · exact ⟨_, wE_10 hkd⟩
  by_cases h : k < 108
  · obtain ⟨fs, e⟩ := key (mc k)
    exact ⟨fs, by rw [wL_C h, e]⟩
  · obtain ⟨j, rfl⟩ : ∃ j, k = 108 + j := ⟨k - 108, by omega⟩
    obtain ⟨fs, e⟩ := key (mm j)
    exact ⟨fs, by rw [wL_M j (by omega), e]⟩
theorem wL_arr {g : GG} {mc mm : Mem} {n k : Nat} (h : isA n k) : (wL g mc mm)[k]? = some (g.1 k, .inl (g.2.1 0, n, .inl (mc k))) := by rw [wL_C h.1, wE_20 h.2.1, h.2.2]
theorem wL_arz {g : GG} {mc mm : Mem} {n k : Nat} (h : isZ n k) : (wL g mc mm)[k]? = some (g.1 k, .inl (g.2.1 1, n, .inl (mc k))) := by rw [wL_C h.1, wE_21 h.2.1, h.2.2]
theorem wL_arM {g : GG} {mc mm : Mem} {n j : Nat} (h : j < 23 ∧ kd (108 + j) = 20 ∧ ln (108 + j) = n) : (wL g mc mm)[108 + j]? = some (g.1 (108 + j), .inl (g.2.1 0, n, .inl (mm j))) := by rw [wL_M j h.1, wE_20 h.2.1, h.2.2]
theorem wL_azM {g : GG} {mc mm : Mem} {n j : Nat} (h : j < 23 ∧ kd (108 + j) = 21 ∧ ln (108 + j) = n) : (wL g mc mm)[108 + j]? = some (g.1 (108 + j), .inl (g.2.1 1, n, .inl (mm j))) := by rw [wL_M j h.1, wE_21 h.2.1, h.2.2]
section ROWS
variable {p : Program} {l : Launch} {e : Env} {R : Room} {s : State} {m : MethodId} {args : Array Value} {below : List Frame} {meth : Method} {c : Code} {H : Heap} {locs : List Loc} {cells slots : Nat} {Q : State → Prop}
variable {cc : ByteArray} {nL : Nat} {own : String} {g : GG} {pc : Nat} {ls : Array Slot} {rest : List Value} {mc mm : Mem}
theorem ra_ld (Z : ZZ p s m args c cc nL own g) (hP : va_P g.2.2.1 vwCl (wL g mc mm) H) {n k : Nat} (ha : isA n k) {i : Int32} (hin : vp_in i n) (hdg : decode cc pc = .ok (.iaload, 1)) (kk : W p l e R s m args below meth c H locs cells slots Q (F0 m (pc + 1) ls (.int (mc k i.toNatClampNeg) :: rest))) : W p l e R s m args below meth c H locs cells slots Q (F0 m pc ls (.int i :: .ref (g.1 k) :: rest)) :=
  va_iald Z.1.1 Z.1.2.1 Z.2.1.1 hP k 0 (wL_arr ha) rfl hin hdg kk
theorem ra_st (Z : ZZ p s m args c cc nL own g) (hP : va_P g.2.2.1 vwCl (wL g mc mm) H) (hS : va_S (AA g s.heap.size) s.heap H locs) {n k : Nat} (ha : isA n k) {i x : Int32} (hin : vp_in i n) (hdg : decode cc pc = .ok (.iastore, 1)) (kk : ∀ (H : Heap) (locs : List Loc), va_P g.2.2.1 vwCl (wL g (mset mc k i.toNatClampNeg x) mm) H → va_S (AA g s.heap.size) s.heap H locs → W p l e R s m args below meth c H locs cells slots Q (F0 m (pc + 1) ls rest)) : W p l e R s m args below meth c H locs cells slots Q (F0 m pc ls (.int x :: .int i :: .ref (g.1 k) :: rest)) :=
  va_iast Z.1.1 Z.1.2.1 Z.2.1.1 hP (ZD Z) hS k 0 (wL_arr ha) rfl hin hdg (fun H1 l1 h1 h2 h3 => kk H1 l1 (by
    have e := wL_setC (g := g) (mc := mc) (mm := mm) ha.1 (upd (mc k) i.toNatClampNeg x)
    rw [wE_20 ha.2.1, ha.2.2] at e
    rw [e] at h1
    exact h1) h3)
theorem rz_ld (Z : ZZ p s m args c cc nL own g) (hP : va_P g.2.2.1 vwCl (wL g mc mm) H) {n k : Nat} (ha : isZ n k) {i : Int32} (hin : vp_in i n) (hdg : decode cc pc = .ok (.baload, 1)) (kk : W p l e R s m args below meth c H locs cells slots Q (F0 m (pc + 1) ls (.int (mc k i.toNatClampNeg) :: rest))) : W p l e R s m args below meth c H locs cells slots Q (F0 m pc ls (.int i :: .ref (g.1 k) :: rest)) :=
  va_zald Z.1.1 Z.1.2.1 Z.2.1.1 hP k 1 (wL_arz ha) rfl hin hdg kk
theorem nZ {x : Int32} (h : x = 0 ∨ x = 1) : vp_nar .boolean x = x := by rcases h with h | h <;> subst h <;> decide
theorem rz_st (Z : ZZ p s m args c cc nL own g) (hP : va_P g.2.2.1 vwCl (wL g mc mm) H) (hS : va_S (AA g s.heap.size) s.heap H locs) {n k : Nat} (ha : isZ n k) {i x : Int32} (hx : x = 0 ∨ x = 1) (hin : vp_in i n) (hdg : decode cc pc = .ok (.bastore, 1)) (kk : ∀ (H : Heap) (locs : List Loc), va_P g.2.2.1 vwCl (wL g (mset mc k i.toNatClampNeg x) mm) H → va_S (AA g s.heap.size) s.heap H locs → W p l e R s m args below meth c H locs cells slots Q (F0 m (pc + 1) ls rest)) : W p l e R s m args below meth c H locs cells slots Q (F0 m pc ls (.int x :: .int i :: .ref (g.1 k) :: rest)) :=
  va_zast Z.1.1 Z.1.2.1 Z.2.1.1 hP (ZD Z) hS k 1 (wL_arz ha) rfl hin hdg (fun H1 l1 h1 h2 h3 => kk H1 l1 (by
    have e := wL_setC (g := g) (mc := mc) (mm := mm) ha.1 (upd (mc k) i.toNatClampNeg x)
    rw [wE_21 ha.2.1, ha.2.2] at e
    rw [nZ hx, e] at h1
    exact h1) h3)
theorem rM_ld (Z : ZZ p s m args c cc nL own g) (hP : va_P g.2.2.1 vwCl (wL g mc mm) H) (n j : Nat) (ha : j < 23 ∧ kd (108 + j) = 20 ∧ ln (108 + j) = n) {i : Int32} (hin : vp_in i n) (hdg : decode cc pc = .ok (.iaload, 1)) (kk : W p l e R s m args below meth c H locs cells slots Q (F0 m (pc + 1) ls (.int (mm j i.toNatClampNeg) :: rest))) : W p l e R s m args below meth c H locs cells slots Q (F0 m pc ls (.int i :: .ref (g.1 (108 + j)) :: rest)) :=
  va_iald Z.1.1 Z.1.2.1 Z.2.1.1 hP (108 + j) 0 (wL_arM ha) rfl hin hdg kk
theorem rM_st (Z : ZZ p s m args c cc nL own g) (hP : va_P g.2.2.1 vwCl (wL g mc mm) H) (hS : va_S (AA g s.heap.size) s.heap H locs) (n j : Nat) (ha : j < 23 ∧ kd (108 + j) = 20 ∧ ln (108 + j) = n) {i x : Int32} (hin : vp_in i n) (hdg : decode cc pc = .ok (.iastore, 1)) (kk : ∀ (H : Heap) (locs : List Loc), va_P g.2.2.1 vwCl (wL g mc (mset mm j i.toNatClampNeg x)) H → va_S (AA g s.heap.size) s.heap H locs → W p l e R s m args below meth c H locs cells slots Q (F0 m (pc + 1) ls rest)) : W p l e R s m args below meth c H locs cells slots Q (F0 m pc ls (.int x :: .int i :: .ref (g.1 (108 + j)) :: rest)) :=
  va_iast Z.1.1 Z.1.2.1 Z.2.1.1 hP (ZD Z) hS (108 + j) 0 (wL_arM ha) rfl hin hdg (fun H1 l1 h1 h2 h3 => kk H1 l1 (by
    have e := wL_setM (g := g) (mc := mc) (mm := mm) j ha.1 (upd (mm j) i.toNatClampNeg x)
    rw [wE_20 ha.2.1, ha.2.2] at e
    rw [e] at h1
    exact h1) h3)
theorem rMz_ld (Z : ZZ p s m args c cc nL own g) (hP : va_P g.2.2.1 vwCl (wL g mc mm) H) (n j : Nat) (ha : j < 23 ∧ kd (108 + j) = 21 ∧ ln (108 + j) = n) {i : Int32} (hin : vp_in i n) (hdg : decode cc pc = .ok (.baload, 1)) (kk : W p l e R s m args below meth c H locs cells slots Q (F0 m (pc + 1) ls (.int (mm j i.toNatClampNeg) :: rest))) : W p l e R s m args below meth c H locs cells slots Q (F0 m pc ls (.int i :: .ref (g.1 (108 + j)) :: rest)) :=
  va_zald Z.1.1 Z.1.2.1 Z.2.1.1 hP (108 + j) 1 (wL_azM ha) rfl hin hdg kk
theorem rMz_st (Z : ZZ p s m args c cc nL own g) (hP : va_P g.2.2.1 vwCl (wL g mc mm) H) (hS : va_S (AA g s.heap.size) s.heap H locs) (n j : Nat) (ha : j < 23 ∧ kd (108 + j) = 21 ∧ ln (108 + j) = n) {i x : Int32} (hx : x = 0 ∨ x = 1) (hin : vp_in i n) (hdg : decode cc pc = .ok (.bastore, 1)) (kk : ∀ (H : Heap) (locs : List Loc), va_P g.2.2.1 vwCl (wL g mc (mset mm j i.toNatClampNeg x)) H → va_S (AA g s.heap.size) s.heap H locs → W p l e R s m args below meth c H locs cells slots Q (F0 m (pc + 1) ls rest)) : W p l e R s m args below meth c H locs cells slots Q (F0 m pc ls (.int x :: .int i :: .ref (g.1 (108 + j)) :: rest)) :=
  va_zast Z.1.1 Z.1.2.1 Z.2.1.1 hP (ZD Z) hS (108 + j) 1 (wL_azM ha) rfl hin hdg (fun H1 l1 h1 h2 h3 => kk H1 l1 (by
    have e := wL_setM (g := g) (mc := mc) (mm := mm) j ha.1 (upd (mm j) i.toNatClampNeg x)
    rw [wE_21 ha.2.1, ha.2.2] at e
    rw [nZ hx, e] at h1
    exact h1) h3)
theorem ra_len (Z : ZZ p s m args c cc nL own g) (hP : va_P g.2.2.1 vwCl (wL g mc mm) H) {n k : Nat} (ha : isA n k) (hdg : decode cc pc = .ok (.arraylength, 1)) (kk : W p l e R s m args below meth c H locs cells slots Q (F0 m (pc + 1) ls (.int (Int32.ofNat n) :: rest))) : W p l e R s m args below meth c H locs cells slots Q (F0 m pc ls (.ref (g.1 k) :: rest)) :=
  va_alen Z.1.1 Z.1.2.1 Z.2.1.1 hP k 0 (wL_arr ha) rfl rfl hdg kk
theorem rq_22 (Z : ZZ p s m args c cc nL own g) (hP : va_P g.2.2.1 vwCl (wL g mc mm) H) {i : Int32} (hin : vp_in i 2) (hdg : decode cc pc = .ok (.aaload, 1)) (kk : W p l e R s m args below meth c H locs cells slots Q (F0 m (pc + 1) ls (.ref (g.1 (2 + 2 * i.toNatClampNeg)) :: rest))) : W p l e R s m args below meth c H locs cells slots Q (F0 m pc ls (.int i :: .ref (g.1 1) :: rest)) :=
  va_aldq (f := fun i => some (g.1 (2 + 2 * i))) Z.1.1 Z.1.2.1 Z.2.1.1 hP 1 2 (by rw [wL_C (by decide), wE_22]) rfl hin hdg kk
theorem rq_len_22 (Z : ZZ p s m args c cc nL own g) (hP : va_P g.2.2.1 vwCl (wL g mc mm) H) (hdg : decode cc pc = .ok (.arraylength, 1)) (kk : W p l e R s m args below meth c H locs cells slots Q (F0 m (pc + 1) ls (.int 2 :: rest))) : W p l e R s m args below meth c H locs cells slots Q (F0 m pc ls (.ref (g.1 1) :: rest)) :=
  va_alen Z.1.1 Z.1.2.1 Z.2.1.1 hP 1 2 (by rw [wL_C (by decide), wE_22]) rfl rfl hdg kk
theorem rq_23 (Z : ZZ p s m args c cc nL own g) (hP : va_P g.2.2.1 vwCl (wL g mc mm) H) {i : Int32} (hin : vp_in i 4) (hdg : decode cc pc = .ok (.aaload, 1)) (kk : W p l e R s m args below meth c H locs cells slots Q (F0 m (pc + 1) ls (.ref (g.1 (26 + 2 * i.toNatClampNeg)) :: rest))) : W p l e R s m args below meth c H locs cells slots Q (F0 m pc ls (.int i :: .ref (g.1 25) :: rest)) :=
  va_aldq (f := fun i => some (g.1 (26 + 2 * i))) Z.1.1 Z.1.2.1 Z.2.1.1 hP 25 3 (by rw [wL_C (by decide), wE_23]) rfl hin hdg kk
theorem rq_len_23 (Z : ZZ p s m args c cc nL own g) (hP : va_P g.2.2.1 vwCl (wL g mc mm) H) (hdg : decode cc pc = .ok (.arraylength, 1)) (kk : W p l e R s m args below meth c H locs cells slots Q (F0 m (pc + 1) ls (.int 4 :: rest))) : W p l e R s m args below meth c H locs cells slots Q (F0 m pc ls (.ref (g.1 25) :: rest)) :=
  va_alen Z.1.1 Z.1.2.1 Z.2.1.1 hP 25 3 (by rw [wL_C (by decide), wE_23]) rfl rfl hdg kk
theorem rq_24 (Z : ZZ p s m args c cc nL own g) (hP : va_P g.2.2.1 vwCl (wL g mc mm) H) {i : Int32} (hin : vp_in i 8) (hdg : decode cc pc = .ok (.aaload, 1)) (kk : W p l e R s m args below meth c H locs cells slots Q (F0 m (pc + 1) ls (.ref (g.1 (39 + 5 * i.toNatClampNeg)) :: rest))) : W p l e R s m args below meth c H locs cells slots Q (F0 m pc ls (.int i :: .ref (g.1 38) :: rest)) :=
  va_aldq (f := fun i => some (g.1 (39 + 5 * i))) Z.1.1 Z.1.2.1 Z.2.1.1 hP 38 4 (by rw [wL_C (by decide), wE_24]) rfl hin hdg kk
theorem rq_len_24 (Z : ZZ p s m args c cc nL own g) (hP : va_P g.2.2.1 vwCl (wL g mc mm) H) (hdg : decode cc pc = .ok (.arraylength, 1)) (kk : W p l e R s m args below meth c H locs cells slots Q (F0 m (pc + 1) ls (.int 8 :: rest))) : W p l e R s m args below meth c H locs cells slots Q (F0 m pc ls (.ref (g.1 38) :: rest)) :=
  va_alen Z.1.1 Z.1.2.1 Z.2.1.1 hP 38 4 (by rw [wL_C (by decide), wE_24]) rfl rfl hdg kk
theorem rq_25 (Z : ZZ p s m args c cc nL own g) (hP : va_P g.2.2.1 vwCl (wL g mc mm) H) {i : Int32} (hin : vp_in i 8) (hdg : decode cc pc = .ok (.aaload, 1)) (kk : W p l e R s m args below meth c H locs cells slots Q (F0 m (pc + 1) ls (.ref (g.1 (100 + 1 * i.toNatClampNeg)) :: rest))) : W p l e R s m args below meth c H locs cells slots Q (F0 m pc ls (.int i :: .ref (g.1 99) :: rest)) :=
  va_aldq (f := fun i => some (g.1 (100 + 1 * i))) Z.1.1 Z.1.2.1 Z.2.1.1 hP 99 5 (by rw [wL_C (by decide), wE_25]) rfl hin hdg kk
theorem rq_len_25 (Z : ZZ p s m args c cc nL own g) (hP : va_P g.2.2.1 vwCl (wL g mc mm) H) (hdg : decode cc pc = .ok (.arraylength, 1)) (kk : W p l e R s m args below meth c H locs cells slots Q (F0 m (pc + 1) ls (.int 8 :: rest))) : W p l e R s m args below meth c H locs cells slots Q (F0 m pc ls (.ref (g.1 99) :: rest)) :=
  va_alen Z.1.1 Z.1.2.1 Z.2.1.1 hP 99 5 (by rw [wL_C (by decide), wE_25]) rfl rfl hdg kk
/-! calls -/
theorem x_pc (Z : ZZ p s m args c cc nL own g) (hP : va_P g.2.2.1 vwCl (wL g mc mm) H) (hS : va_S (AA g s.heap.size) s.heap H locs) {U : State} (hU : U.heap = H) (hW : s.WarmedH U.vm) : PC g mc mm H.size U := by
  have hAB : ∀ q, AA g H.size q → AA g s.heap.size q := fun q h => h.imp id (fun z => Nat.le_trans hS.1 z)
  refine ⟨by rw [hU], by rw [hU]; exact hP, Z.2.1.warm hW, Z.2.2.1, ?_, ?_⟩
  · rw [hU]; exact vk_S.moved hW.alike ((Z.2.2.2.1.kept hS.2.1).narrow hAB)
  · rw [hU]; exact va_Z.moved hW.alike ((Z.2.2.2.2.kept hS.2.1).narrow hAB)
theorem x_cB (Z : ZZ p s m args c cc nL own g) {y : MethodName} {b : ByteArray} {n : Nat} {r : Option FieldType} {k fr lo index : Nat} (hm : mFix y b n r k) (hl : Cond.methodLink own index y ∈ wsL_law) (hR : fr + 1 ≤ R.frames ∧ 8 + (n + 11) + lo ≤ R.locals) : CallB R s args own index y b n r (uw y b n r) { frames := fr, cells := 0, slots := 0, locals := lo } 0 0 k :=
  callB_of k Z.1.2.2.2.2 (uw_goodL hm.1) rfl rfl rfl (Z.1.2.2.2.2 _ hm.2.1) (Z.1.2.2.2.2 _ hl) hm.2.2 hR
theorem x_cN (Z : ZZ p s m args c cc nL own g) {y : MethodName} {b : ByteArray} {n : Nat} {r : Option FieldType} {k fr lo index : Nat} (hm : mFix y b n r k) (hl : (own, index, y) ∈ nwM) (hR : fr + 1 ≤ R.frames ∧ 8 + (n + 11) + lo ≤ R.locals) : va_CN R s args own index y "WellTalk" b n r (uw y b n r) { frames := fr, cells := 0, slots := 0, locals := lo } 0 0 k :=
  va_cnB k Z.1.2.2.2.2 (uw_goodL hm.1) rfl rfl rfl (Z.2.1.2.2.1 _ hl) (Z.1.2.2.2.2 _ hm.2.1) hm.2.2 hR
theorem x_af (hS : va_S (AA g s.heap.size) s.heap H locs) : ∀ q, AA g H.size q → AA g s.heap.size q := fun q h => h.imp id (fun z => Nat.le_trans hS.1 z)
theorem x_VI (Z : ZZ p s m args c cc nL own g) (hP : va_P g.2.2.1 vwCl (wL g mc mm) H) (hS : va_S (AA g s.heap.size) s.heap H locs) {y : MethodName} {b : ByteArray} {n fr lo index k : Nat} {ret : FieldType} {mc' mm' : Mem} {r : Int32} {As st : List Value} {o ci : Nat} (hM : KI l y b n ret fr lo g (.ref (g.1 o) :: As) mc mm r (mc', mm')) (ho : o < 131 ∧ kd o = ci) (hci : ci < 11) {q : vw_C} (hc : vwCl[ci]? = some q) (hqc : q.1 = y.cls) (hm : mFix y b n (some ret) k) (hv : mVirt y) (hl : Cond.methodLink own index y ∈ wsL_law) (hlen : As.length = k) (hst : st = As.reverse ++ .ref (g.1 o) :: rest) (hsz : ls.size = nL) (hro : (rest.map fun v => v.category).sum ≤ 8) (hR : fr + 1 ≤ R.frames ∧ 8 + (n + 11) + lo ≤ R.locals) (hdg : decode cc pc = .ok (.invokevirtual index, 3)) (kk : ∀ (H : Heap) (locs : List Loc), va_P g.2.2.1 vwCl (wL g mc' mm') H → va_S (AA g s.heap.size) s.heap H locs → W p l e R s m args below meth c H locs 0 0 Q (F0 m (pc + 3) ls (.int r :: rest))) : W p l e R s m args below meth c H locs 0 0 Q (F0 m pc ls st) := by
  subst hst
  obtain ⟨fs, he⟩ := wL_obj (g := g) (mc := mc) (mm := mm) ho.1 ho.2 hci
  refine va_calli (va_runV (C := y.cls) (As := As) (rest := rest) Z.1 (hM H.size) ⟨x_cB Z hm hl hR, Z.1.2.2.2.2 _ hv.1, Z.1.2.2.2.2 _ hv.2⟩ ⟨PC_blind, by rw [← hqc]; exact va_recv Z.2.1.1 hP hc he, fun U hU hW => ⟨rfl, x_pc Z hP hS hU hW⟩⟩ rfl hlen hsz rfl (lv_room hro) hdg ⟨Nat.zero_le _, Nat.zero_le _⟩) hS (fun q _ h => x_af hS q h) (x_af hS) (fun r' u t H1 l1 ht hvm hq hB hz hk hS1 => ?_)
  obtain ⟨rfl, rfl⟩ := hq
  exact kk H1 l1 (by rw [← ht]; exact hB) hS1
theorem x_SI (Z : ZZ p s m args c cc nL own g) (hP : va_P g.2.2.1 vwCl (wL g mc mm) H) (hS : va_S (AA g s.heap.size) s.heap H locs) {y : MethodName} {b : ByteArray} {n fr lo index k : Nat} {ret : FieldType} {mc' mm' : Mem} {r : Int32} {As st : List Value} (hM : KI l y b n ret fr lo g As mc mm r (mc', mm')) (hm : mFix y b n (some ret) k) (hv : Cond.static y ∈ wsL_law) (hl : Cond.methodLink own index y ∈ wsL_law) (hlen : As.length = k) (hst : st = As.reverse ++ rest) (hsz : ls.size = nL) (hro : (rest.map fun v => v.category).sum ≤ 8) (hR : fr + 1 ≤ R.frames ∧ 8 + (n + 11) + lo ≤ R.locals) (hdg : decode cc pc = .ok (.invokestatic index, 3)) (kk : ∀ (H : Heap) (locs : List Loc), va_P g.2.2.1 vwCl (wL g mc' mm') H → va_S (AA g s.heap.size) s.heap H locs → W p l e R s m args below meth c H locs 0 0 Q (F0 m (pc + 3) ls (.int r :: rest))) : W p l e R s m args below meth c H locs 0 0 Q (F0 m pc ls st) := by
  subst hst
  refine va_calli (va_runS (As := As) (rest := rest) Z.1 (hM H.size) ⟨x_cB Z hm hl hR, Z.1.2.2.2.2 _ hv⟩ ⟨PC_blind, fun U hU hW => ⟨rfl, x_pc Z hP hS hU hW⟩⟩ rfl hlen hsz rfl (lv_room hro) hdg ⟨Nat.zero_le _, Nat.zero_le _⟩) hS (fun q _ h => x_af hS q h) (x_af hS) (fun r' u t H1 l1 ht hvm hq hB hz hk hS1 => ?_)
  obtain ⟨rfl, rfl⟩ := hq
  exact kk H1 l1 (by rw [← ht]; exact hB) hS1
theorem x_NI (Z : ZZ p s m args c cc nL own g) (hP : va_P g.2.2.1 vwCl (wL g mc mm) H) (hS : va_S (AA g s.heap.size) s.heap H locs) {y : MethodName} {b : ByteArray} {n fr lo index k : Nat} {ret : FieldType} {mc' mm' : Mem} {r : Int32} {As st : List Value} (hM : KI l y b n ret fr lo g As mc mm r (mc', mm')) (hm : mFix y b n (some ret) k) (hv : Cond.static y ∈ wsL_law) (hl : (own, index, y) ∈ nwM) (hlen : As.length = k) (hst : st = As.reverse ++ rest) (hsz : ls.size = nL) (hro : (rest.map fun v => v.category).sum ≤ 8) (hR : fr + 1 ≤ R.frames ∧ 8 + (n + 11) + lo ≤ R.locals) (hdg : decode cc pc = .ok (.invokestatic index, 3)) (kk : ∀ (H : Heap) (locs : List Loc), va_P g.2.2.1 vwCl (wL g mc' mm') H → va_S (AA g s.heap.size) s.heap H locs → W p l e R s m args below meth c H locs 0 0 Q (F0 m (pc + 3) ls (.int r :: rest))) : W p l e R s m args below meth c H locs 0 0 Q (F0 m pc ls st) := by
  subst hst
  refine va_calli (va_runSN (As := As) (rest := rest) Z.1 (hM H.size) ⟨x_cN Z hm hl hR, Z.1.2.2.2.2 _ hv, trivial⟩ ⟨PC_blind, fun U hU hW => ⟨rfl, x_pc Z hP hS hU hW⟩⟩ rfl hlen hsz rfl (lv_room hro) hdg ⟨Nat.zero_le _, Nat.zero_le _⟩) hS (fun q _ h => x_af hS q h) (x_af hS) (fun r' u t H1 l1 ht hvm hq hB hz hk hS1 => ?_)
  obtain ⟨rfl, rfl⟩ := hq
  exact kk H1 l1 (by rw [← ht]; exact hB) hS1
theorem x_VL (Z : ZZ p s m args c cc nL own g) (hP : va_P g.2.2.1 vwCl (wL g mc mm) H) (hS : va_S (AA g s.heap.size) s.heap H locs) {y : MethodName} {b : ByteArray} {n fr lo index k : Nat} {mc' mm' : Mem} {r : Int64} {As st : List Value} {o ci : Nat} (hM : KL l y b n fr lo g (.ref (g.1 o) :: As) mc mm r (mc', mm')) (ho : o < 131 ∧ kd o = ci) (hci : ci < 11) {q : vw_C} (hc : vwCl[ci]? = some q) (hqc : q.1 = y.cls) (hm : mFix y b n (some .long) k) (hv : mVirt y) (hl : Cond.methodLink own index y ∈ wsL_law) (hlen : As.length = k) (hst : st = As.reverse ++ .ref (g.1 o) :: rest) (hsz : ls.size = nL) (hro : (rest.map fun v => v.category).sum ≤ 8) (hR : fr + 1 ≤ R.frames ∧ 8 + (n + 11) + lo ≤ R.locals) (hdg : decode cc pc = .ok (.invokevirtual index, 3)) (kk : ∀ (H : Heap) (locs : List Loc), va_P g.2.2.1 vwCl (wL g mc' mm') H → va_S (AA g s.heap.size) s.heap H locs → W p l e R s m args below meth c H locs 0 0 Q (F0 m (pc + 3) ls (.long r :: rest))) : W p l e R s m args below meth c H locs 0 0 Q (F0 m pc ls st) := by
  subst hst
  obtain ⟨fs, he⟩ := wL_obj (g := g) (mc := mc) (mm := mm) ho.1 ho.2 hci
  refine va_calll (va_runV (C := y.cls) (As := As) (rest := rest) Z.1 (hM H.size) ⟨x_cB Z hm hl hR, Z.1.2.2.2.2 _ hv.1, Z.1.2.2.2.2 _ hv.2⟩ ⟨PC_blind, by rw [← hqc]; exact va_recv Z.2.1.1 hP hc he, fun U hU hW => ⟨rfl, x_pc Z hP hS hU hW⟩⟩ rfl hlen hsz rfl (lv_room hro) hdg ⟨Nat.zero_le _, Nat.zero_le _⟩) hS (fun q _ h => x_af hS q h) (x_af hS) (fun r' u t H1 l1 ht hvm hq hB hz hk hS1 => ?_)
  obtain ⟨rfl, rfl⟩ := hq
  exact kk H1 l1 (by rw [← ht]; exact hB) hS1
theorem x_SL (Z : ZZ p s m args c cc nL own g) (hP : va_P g.2.2.1 vwCl (wL g mc mm) H) (hS : va_S (AA g s.heap.size) s.heap H locs) {y : MethodName} {b : ByteArray} {n fr lo index k : Nat} {mc' mm' : Mem} {r : Int64} {As st : List Value} (hM : KL l y b n fr lo g As mc mm r (mc', mm')) (hm : mFix y b n (some .long) k) (hv : Cond.static y ∈ wsL_law) (hl : Cond.methodLink own index y ∈ wsL_law) (hlen : As.length = k) (hst : st = As.reverse ++ rest) (hsz : ls.size = nL) (hro : (rest.map fun v => v.category).sum ≤ 8) (hR : fr + 1 ≤ R.frames ∧ 8 + (n + 11) + lo ≤ R.locals) (hdg : decode cc pc = .ok (.invokestatic index, 3)) (kk : ∀ (H : Heap) (locs : List Loc), va_P g.2.2.1 vwCl (wL g mc' mm') H → va_S (AA g s.heap.size) s.heap H locs → W p l e R s m args below meth c H locs 0 0 Q (F0 m (pc + 3) ls (.long r :: rest))) : W p l e R s m args below meth c H locs 0 0 Q (F0 m pc ls st) := by
  subst hst
  refine va_calll (va_runS (As := As) (rest := rest) Z.1 (hM H.size) ⟨x_cB Z hm hl hR, Z.1.2.2.2.2 _ hv⟩ ⟨PC_blind, fun U hU hW => ⟨rfl, x_pc Z hP hS hU hW⟩⟩ rfl hlen hsz rfl (lv_room hro) hdg ⟨Nat.zero_le _, Nat.zero_le _⟩) hS (fun q _ h => x_af hS q h) (x_af hS) (fun r' u t H1 l1 ht hvm hq hB hz hk hS1 => ?_)
  obtain ⟨rfl, rfl⟩ := hq
  exact kk H1 l1 (by rw [← ht]; exact hB) hS1
theorem x_VV (Z : ZZ p s m args c cc nL own g) (hP : va_P g.2.2.1 vwCl (wL g mc mm) H) (hS : va_S (AA g s.heap.size) s.heap H locs) {y : MethodName} {b : ByteArray} {n fr lo index k : Nat} {mc' mm' : Mem} {As st : List Value} {o ci : Nat} (hM : KV l y b n fr lo g (.ref (g.1 o) :: As) mc mm (mc', mm')) (ho : o < 131 ∧ kd o = ci) (hci : ci < 11) {q : vw_C} (hc : vwCl[ci]? = some q) (hqc : q.1 = y.cls) (hm : mFix y b n (none) k) (hv : mVirt y) (hl : Cond.methodLink own index y ∈ wsL_law) (hlen : As.length = k) (hst : st = As.reverse ++ .ref (g.1 o) :: rest) (hsz : ls.size = nL) (hro : (rest.map fun v => v.category).sum ≤ 8) (hR : fr + 1 ≤ R.frames ∧ 8 + (n + 11) + lo ≤ R.locals) (hdg : decode cc pc = .ok (.invokevirtual index, 3)) (kk : ∀ (H : Heap) (locs : List Loc), va_P g.2.2.1 vwCl (wL g mc' mm') H → va_S (AA g s.heap.size) s.heap H locs → W p l e R s m args below meth c H locs 0 0 Q (F0 m (pc + 3) ls (rest))) : W p l e R s m args below meth c H locs 0 0 Q (F0 m pc ls st) := by
  subst hst
  obtain ⟨fs, he⟩ := wL_obj (g := g) (mc := mc) (mm := mm) ho.1 ho.2 hci
  refine va_callv (va_runV (C := y.cls) (As := As) (rest := rest) Z.1 (hM H.size) ⟨x_cB Z hm hl hR, Z.1.2.2.2.2 _ hv.1, Z.1.2.2.2.2 _ hv.2⟩ ⟨PC_blind, by rw [← hqc]; exact va_recv Z.2.1.1 hP hc he, fun U hU hW => ⟨rfl, x_pc Z hP hS hU hW⟩⟩ rfl hlen hsz rfl (lv_room hro) hdg ⟨Nat.zero_le _, Nat.zero_le _⟩) hS (fun q _ h => x_af hS q h) (x_af hS) (fun u t H1 l1 ht hvm hq hB hz hk hS1 => ?_)
  subst hq
  exact kk H1 l1 (by rw [← ht]; exact hB) hS1
theorem x_SV (Z : ZZ p s m args c cc nL own g) (hP : va_P g.2.2.1 vwCl (wL g mc mm) H) (hS : va_S (AA g s.heap.size) s.heap H locs) {y : MethodName} {b : ByteArray} {n fr lo index k : Nat} {mc' mm' : Mem} {As st : List Value} (hM : KV l y b n fr lo g As mc mm (mc', mm')) (hm : mFix y b n (none) k) (hv : Cond.static y ∈ wsL_law) (hl : Cond.methodLink own index y ∈ wsL_law) (hlen : As.length = k) (hst : st = As.reverse ++ rest) (hsz : ls.size = nL) (hro : (rest.map fun v => v.category).sum ≤ 8) (hR : fr + 1 ≤ R.frames ∧ 8 + (n + 11) + lo ≤ R.locals) (hdg : decode cc pc = .ok (.invokestatic index, 3)) (kk : ∀ (H : Heap) (locs : List Loc), va_P g.2.2.1 vwCl (wL g mc' mm') H → va_S (AA g s.heap.size) s.heap H locs → W p l e R s m args below meth c H locs 0 0 Q (F0 m (pc + 3) ls (rest))) : W p l e R s m args below meth c H locs 0 0 Q (F0 m pc ls st) := by
  subst hst
  refine va_callv (va_runS (As := As) (rest := rest) Z.1 (hM H.size) ⟨x_cB Z hm hl hR, Z.1.2.2.2.2 _ hv⟩ ⟨PC_blind, fun U hU hW => ⟨rfl, x_pc Z hP hS hU hW⟩⟩ rfl hlen hsz rfl (lv_room hro) hdg ⟨Nat.zero_le _, Nat.zero_le _⟩) hS (fun q _ h => x_af hS q h) (x_af hS) (fun u t H1 l1 ht hvm hq hB hz hk hS1 => ?_)
  subst hq
  exact kk H1 l1 (by rw [← ht]; exact hB) hS1
end ROWS

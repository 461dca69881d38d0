def AO4 (U : State) : Prop := va_AO RX7 U ∧ va_AO RX6 U ∧ va_AO RX4 U ∧ va_AO RX0 U
theorem AO4.moved {s U : State} (h : s.vm.Alike U.vm) (a : AO4 s) : AO4 U := ⟨va_AO.moved h a.1, va_AO.moved h a.2.1, va_AO.moved h a.2.2.1, va_AO.moved h a.2.2.2⟩
def KA (g : GG) (U : State) : Prop := KK g U ∧ AO4 U
theorem KA.warm {g : GG} {s U : State} (hW : s.WarmedH U.vm) (h : KA g s) : KA g U := ⟨h.1.warm hW, h.2.moved hW.alike⟩
theorem KA.same {g : GG} {s U : State} (hv : s.vm = U.vm) (h : KA g s) : KA g U := ⟨h.1.same hv, h.2.moved (by rw [hv]; exact Vm.Alike.refl _)⟩
/-! constructors: a world is a list of cells; a called constructor takes the last cell and puts its own arrays behind it -/
def PN (g : GG) (ws : va_W) (sz : Nat) (U : State) : Prop := U.heap.size = sz ∧ va_P g.2.2.1 vwCl ws U.heap ∧ KA g U ∧ va_D (fun _ => True) ws
theorem PN.same {g : GG} {ws : va_W} {sz : Nat} {s U : State} (hv : s.vm = U.vm) (hh : U.heap = s.heap) (h : PN g ws sz s) : PN g ws sz U := ⟨by rw [hh]; exact h.1, by rw [hh]; exact h.2.1, h.2.2.1.same hv, h.2.2.2⟩
theorem PN_blind {g : GG} {ws : va_W} {sz : Nat} {av : List Value} : FrameBlind (va_Pc av (PN g ws sz)) := fun a U f mk h => ⟨h.1, h.2.same (U := U.calling f mk a) rfl rfl⟩
def QN (g : GG) (w0 : va_W) (sz : Nat) (Good : va_W → Prop) : Array Value → State → Outcome → State → Prop := va_Qv (fun _ : Unit => True) (fun _ t => ∃ w1, Good w1 ∧ va_P g.2.2.1 vwCl w1 t.heap ∧ va_D (va_A w0 sz) w1) (va_A w0 sz)
def KN (l : Launch) (y : MethodName) (b : ByteArray) (n fr lo mc ms : Nat) (g : GG) (av : List Value) (w0 : va_W) (Good : va_W → Prop) : Prop := ∀ sz, Met l y (uw y b n none) { frames := fr, cells := mc, slots := ms, locals := lo } (va_Pc av (PN g w0 sz)) (QN g w0 sz Good) mc ms (va_A w0 sz)
section NROWS
variable {p : Program} {l : Launch} {e : Env} {R : Room} {s : State} {m : MethodId} {args : Array Value} {below : List Frame} {meth : Method} {c : Code} {H : Heap} {locs : List Loc} {cells slots : Nat} {Q : State → Prop}
variable {cc : ByteArray} {nL : Nat} {own : String} {g : GG} {pc : Nat} {ls : Array Slot} {rest : List Value} {ws : va_W} {A : Nat → Prop}
theorem n_cA {cA : ClassId} {i : Nat} {ty : FieldType} (hK : KK g s) (hK' : va_K g.2.2.1 vwCl (uT g ++ [(cA, ty)]) s) (hi : (uT g)[i]? = some (g.2.1 i, ty)) : cA = g.2.1 i := by
  have h1 := (hK'.2 6 (cA, ty) (by rw [List.getElem?_append_right (Nat.le_of_ble_eq_true rfl)]; rfl)).2
  have h2 := (hK.1.2 i _ hi).2
  cases ty with
  | object C =>
    obtain ⟨_, _, -, -, -, h1⟩ := h1
    obtain ⟨_, _, -, -, -, h2⟩ := h2
    exact Option.some.inj (h1.symm.trans h2)
  | _ => exact Option.some.inj (Eq.trans (Eq.symm h1) h2)
theorem n_newa (Z : CallFix p m c cc nL s args wsL_law own) (hK : KK g s) (hP : va_P g.2.2.1 vwCl ws H) (hD : va_D A ws) (hS : va_S A s.heap H locs) (hA : ∀ q, s.heap.size ≤ q → A q) {n : Int32} (N' : Nat) (hn : ¬ n < 0) (hN : n.toNatClampNeg = N') (hbytes : N' * 4 ≤ 536870912) (hcells : cells + 1 ≤ R.cells) (hslots : slots + N' ≤ R.slots) (hw : Cond.arrayClass .int ∈ wsL_law) (hdg : decode cc pc = .ok (.newarray .int, 2))
    (kk : ∀ (q : Nat) (H1 : Heap), va_P g.2.2.1 vwCl (ws ++ [(q, .inl (g.2.1 0, N', .inl (fun _ => 0)))]) H1 → va_D A (ws ++ [(q, .inl (g.2.1 0, N', .inl (fun _ => 0)))]) → va_S A s.heap H1 locs → W p l e R s m args below meth c H1 locs (cells + 1) (slots + N') Q (F0 m (pc + 2) ls (.ref q :: rest))) : W p l e R s m args below meth c H locs cells slots Q (F0 m pc ls (.int n :: rest)) :=
  va_newa (atype := .int) (a0 := (N', .inl (fun _ => 0))) Z.1 Z.2.1 (Z.2.2.2.2 _ hw) rfl hK.1 hP hD hS hA (fun _ => rfl) hn hN hbytes hcells hslots hdg (fun q cA H1 hK' h1 h2 h3 => by
    have e := n_cA (i := 0) hK hK' rfl
    subst e
    exact kk q H1 h1 h2 h3)
theorem n_newz (Z : CallFix p m c cc nL s args wsL_law own) (hK : KK g s) (hP : va_P g.2.2.1 vwCl ws H) (hD : va_D A ws) (hS : va_S A s.heap H locs) (hA : ∀ q, s.heap.size ≤ q → A q) {n : Int32} (N' : Nat) (hn : ¬ n < 0) (hN : n.toNatClampNeg = N') (hbytes : N' * 1 ≤ 536870912) (hcells : cells + 1 ≤ R.cells) (hslots : slots + N' ≤ R.slots) (hw : Cond.arrayClass .boolean ∈ wsL_law) (hdg : decode cc pc = .ok (.newarray .boolean, 2))
    (kk : ∀ (q : Nat) (H1 : Heap), va_P g.2.2.1 vwCl (ws ++ [(q, .inl (g.2.1 1, N', .inl (fun _ => 0)))]) H1 → va_D A (ws ++ [(q, .inl (g.2.1 1, N', .inl (fun _ => 0)))]) → va_S A s.heap H1 locs → W p l e R s m args below meth c H1 locs (cells + 1) (slots + N') Q (F0 m (pc + 2) ls (.ref q :: rest))) : W p l e R s m args below meth c H locs cells slots Q (F0 m pc ls (.int n :: rest)) :=
  va_newa (atype := .boolean) (a0 := (N', .inl (fun _ => 0))) Z.1 Z.2.1 (Z.2.2.2.2 _ hw) rfl hK.1 hP hD hS hA (fun _ => rfl) hn hN hbytes hcells hslots hdg (fun q cA H1 hK' h1 h2 h3 => by
    have e := n_cA (i := 1) hK hK' rfl
    subst e
    exact kk q H1 h1 h2 h3)
theorem n_newq {C : String} {index : Nat} (Z : CallFix p m c cc nL s args wsL_law own) (hK : KK g s) (hP : va_P g.2.2.1 vwCl ws H) (hD : va_D A ws) (hS : va_S A s.heap H locs) (hA : ∀ q, s.heap.size ≤ q → A q) {n : Int32} (N' i : Nat) (hi : (uT g)[i]? = some (g.2.1 i, .object C)) (hn : ¬ n < 0) (hN : n.toNatClampNeg = N') (hbytes : N' * 4 ≤ 536870912) (hcells : cells + 1 ≤ R.cells) (hslots : slots + N' ≤ R.slots) (hw : Cond.classLink own index C ∈ wsL_law) (hov : va_AO C s) (hdg : decode cc pc = .ok (.anewarray index, 3))
    (kk : ∀ (q : Nat) (H1 : Heap), va_P g.2.2.1 vwCl (ws ++ [(q, .inl (g.2.1 i, N', .inr (.inr (.inr (.inr (fun _ => none))))))]) H1 → va_D A (ws ++ [(q, .inl (g.2.1 i, N', .inr (.inr (.inr (.inr (fun _ => none))))))]) → va_S A s.heap H1 locs → W p l e R s m args below meth c H1 locs (cells + 1) (slots + N') Q (F0 m (pc + 3) ls (.ref q :: rest))) : W p l e R s m args below meth c H locs cells slots Q (F0 m pc ls (.int n :: rest)) :=
  va_newq Z.1 Z.2.1 Z.2.2.2.1 (Z.2.2.2.2 _ hw) hov hK.1 hP hD hS hA hn hN hbytes hcells hslots hdg (fun q cA H1 hK' h1 h2 h3 => by
    have e := n_cA (i := i) hK hK' hi
    subst e
    exact kk q H1 h1 h2 h3)
theorem n_ap {a b : va_W} {k : Nat} {q : Nat × va_E} (h : a[k]? = some q) : (a ++ b)[k]? = some q := by
  rw [List.getElem?_append_left (List.getElem?_eq_some_iff.mp h).1]; exact h
/-- a constructor is called on the last cell -/
theorem n_join {wr w1 : va_W} {q : Nat} {e0 : va_E} {H1 : Heap} (hP : va_P g.2.2.1 vwCl (wr ++ [(q, e0)]) H) (hD : va_D A (wr ++ [(q, e0)])) (hA : ∀ a, H.size ≤ a → A a) (hk : ∀ a : Nat, a < H.size → ¬ va_A [(q, e0)] H.size a → H1[a]? = H[a]?) (hP1 : va_P g.2.2.1 vwCl w1 H1) (hD1 : va_D (va_A [(q, e0)] H.size) w1) : va_P g.2.2.1 vwCl (wr ++ w1) H1 ∧ va_D A (wr ++ w1) := by
  have hq : (wr ++ [(q, e0)])[wr.length]? = some (q, e0) := by rw [List.getElem?_append_right (Nat.le_refl _), Nat.sub_self]; rfl
  have apart : ∀ (k : Nat) (x : Nat × va_E), wr[k]? = some x → x.1 < H.size ∧ ¬ va_A [(q, e0)] H.size x.1 := by
    intro k x hx
    have hl := (hP k x (n_ap hx)).lt
    refine ⟨hl, fun h => ?_⟩
    rcases h with ⟨k2, e2, h⟩ | h
    · have h3 := hD.1 k wr.length x (q, e0) (n_ap hx) hq (by
        cases k2 with
        | zero => cases h; rfl
        | succ k2 => cases h)
      have := (List.getElem?_eq_some_iff.mp hx).1
      omega
    · omega
  have hF : ∀ a, va_A [(q, e0)] H.size a → A a := by
    intro a h
    rcases h with ⟨k2, e2, h⟩ | h
    · cases k2 with
      | zero => cases h; exact hD.2 _ _ hq
      | succ k2 => cases h
    · exact hA a h
  refine ⟨va_P.app (fun k x hx => (hP k x (n_ap hx)).kept (hk x.1 (apart k x hx).1 (apart k x hx).2)) hP1, va_D.app ⟨fun i j x y hi hj h => hD.1 i j x y (n_ap hi) (n_ap hj) h, fun k x hx => hD.2 k x (n_ap hx)⟩ (hD1.weaken (fun k x _ h => hF x.1 h)) (fun i j x y hx hy hxy => ?_)⟩
  exact (apart i x hx).2 (by rw [hxy]; exact hD1.2 j y hy)
theorem n_pre {wr : va_W} {q : Nat} {e0 : va_E} (hK : KA g s) (hP : va_P g.2.2.1 vwCl (wr ++ [(q, e0)]) H) {U : State} (hU : U.heap = H) (hW : s.WarmedH U.vm) : PN g [(q, e0)] H.size U := by
  have hq : (wr ++ [(q, e0)])[wr.length]? = some (q, e0) := by rw [List.getElem?_append_right (Nat.le_refl _), Nat.sub_self]; rfl
  refine ⟨by rw [hU], fun k x hx => ?_, hK.warm hW, fun i j x y hi hj h => ?_, fun _ _ _ => trivial⟩
  · cases k with
    | zero => cases hx; rw [hU]; exact hP _ _ hq
    | succ k => cases hx
  · cases i with
    | zero => cases j with
      | zero => rfl
      | succ j => cases hj
    | succ i => cases hi
theorem n_free {wr : va_W} {q : Nat} {e0 : va_E} (hD : va_D A (wr ++ [(q, e0)])) (hS : va_S A s.heap H locs) (hA : ∀ a, s.heap.size ≤ a → A a) : ∀ a, va_A [(q, e0)] H.size a → A a := by
  have hq : (wr ++ [(q, e0)])[wr.length]? = some (q, e0) := by rw [List.getElem?_append_right (Nat.le_refl _), Nat.sub_self]; rfl
  intro a h
  rcases h with ⟨k2, e2, h⟩ | h
  · cases k2 with
    | zero => cases h; exact hD.2 _ _ hq
    | succ k2 => cases h
  · exact hA a (Nat.le_trans hS.1 h)
theorem n_callN (Z : CallFix p m c cc nL s args wsL_law own) (hK : KA g s) (wr : va_W) {q : Nat} {e0 : va_E} (hP : va_P g.2.2.1 vwCl (wr ++ [(q, e0)]) H) (hD : va_D A (wr ++ [(q, e0)])) (hS : va_S A s.heap H locs) (hA : ∀ a, s.heap.size ≤ a → A a) {y : MethodName} {b : ByteArray} {n fr lo mc ms index k : Nat} {As st : List Value} {Good : va_W → Prop} (hM : KN l y b n fr lo mc ms g (.ref q :: As) [(q, e0)] Good) (hm : mFix y b n none k) (hy1 : y.name = "<init>") (hin : Cond.instanceMethod y ∈ wsL_law) (hl : (own, index, y) ∈ nwM) (hlen : As.length = k) (hst : st = As.reverse ++ .ref q :: rest) (hsz : ls.size = nL) (hro : (rest.map fun v => v.category).sum ≤ 8) (hR : fr + 1 ≤ R.frames ∧ 8 + (n + 11) + lo ≤ R.locals) (hdg : decode cc pc = .ok (.invokespecial index, 3)) (hf : cells + mc ≤ R.cells ∧ slots + ms ≤ R.slots) (kk : ∀ (w1 : va_W) (H1 : Heap) (locs : List Loc), Good w1 → va_P g.2.2.1 vwCl (wr ++ w1) H1 → va_D A (wr ++ w1) → va_S A s.heap H1 locs → W p l e R s m args below meth c H1 locs (cells + mc) (slots + ms) Q (F0 m (pc + 3) ls rest)) : W p l e R s m args below meth c H locs cells slots Q (F0 m pc ls st) := by
  subst hst
  refine va_callv (va_runIN (As := As) (rest := rest) Z (hM H.size) ⟨va_cnB k Z.2.2.2.2 (uw_goodL hm.1) rfl rfl rfl (hK.1.2.2.1 _ hl) (Z.2.2.2.2 _ hm.2.1) hm.2.2 hR, hy1, Z.2.2.2.2 _ hin⟩ ⟨PN_blind, fun U hU hW => ⟨rfl, n_pre hK hP hU hW⟩⟩ rfl hlen hsz rfl (lv_room hro) hdg hf) hS (fun q _ h => n_free hD hS hA q h) (n_free hD hS hA) (fun u t H1 l1 ht hvm hq hB hz hk hS1 => ?_)
  obtain ⟨w1, hg, h1, h2⟩ := hB
  rw [ht] at h1
  obtain ⟨h3, h4⟩ := n_join hP hD (fun a h => hA a (Nat.le_trans hS.1 h)) hk h1 h2
  exact kk w1 H1 l1 hg h3 h4 hS1
theorem n_callI (Z : CallFix p m c cc nL s args wsL_law own) (hK : KA g s) (wr : va_W) {q : Nat} {e0 : va_E} (hP : va_P g.2.2.1 vwCl (wr ++ [(q, e0)]) H) (hD : va_D A (wr ++ [(q, e0)])) (hS : va_S A s.heap H locs) (hA : ∀ a, s.heap.size ≤ a → A a) {y : MethodName} {b : ByteArray} {n fr lo mc ms index k : Nat} {As st : List Value} {Good : va_W → Prop} (hM : KN l y b n fr lo mc ms g (.ref q :: As) [(q, e0)] Good) (hm : mFix y b n none k) (hy1 : y.name = "<init>") (hin : Cond.instanceMethod y ∈ wsL_law) (hl : Cond.methodLink own index y ∈ wsL_law) (hlen : As.length = k) (hst : st = As.reverse ++ .ref q :: rest) (hsz : ls.size = nL) (hro : (rest.map fun v => v.category).sum ≤ 8) (hR : fr + 1 ≤ R.frames ∧ 8 + (n + 11) + lo ≤ R.locals) (hdg : decode cc pc = .ok (.invokespecial index, 3)) (hf : cells + mc ≤ R.cells ∧ slots + ms ≤ R.slots) (kk : ∀ (w1 : va_W) (H1 : Heap) (locs : List Loc), Good w1 → va_P g.2.2.1 vwCl (wr ++ w1) H1 → va_D A (wr ++ w1) → va_S A s.heap H1 locs → W p l e R s m args below meth c H1 locs (cells + mc) (slots + ms) Q (F0 m (pc + 3) ls rest)) : W p l e R s m args below meth c H locs cells slots Q (F0 m pc ls st) := by
  subst hst
  refine va_callv (va_runI (As := As) (rest := rest) Z (hM H.size) (cwI k Z.2.2.2.2 (uw_goodL hm.1) rfl rfl rfl (Z.2.2.2.2 _ hm.2.1) (Z.2.2.2.2 _ hl) (Z.2.2.2.2 _ hin) hy1 hm.2.2 hR) ⟨PN_blind, fun U hU hW => ⟨rfl, n_pre hK hP hU hW⟩⟩ rfl hlen hsz rfl (lv_room hro) hdg hf) hS (fun q _ h => n_free hD hS hA q h) (n_free hD hS hA) (fun u t H1 l1 ht hvm hq hB hz hk hS1 => ?_)
  obtain ⟨w1, hg, h1, h2⟩ := hB
  rw [ht] at h1
  obtain ⟨h3, h4⟩ := n_join hP hD (fun a h => hA a (Nat.le_trans hS.1 h)) hk h1 h2
  exact kk w1 H1 l1 hg h3 h4 hS1
theorem n_start {y : MethodName} {cc : ByteArray} {n fr lo mc ms : Nat} {av : List Value} {w0 : va_W} {Good : va_W → Prop} (hy : plainName y.cls = true) (hn : (lg_sl av).length ≤ n)
    (body : ∀ (p : Program) (e : Env) (s : State) (m : MethodId) (args : Array Value) (below : List Frame) (meth : Method) (c : Code) (ls : Array Slot) (A : Nat → Prop), CallFix p m c cc n s args wsL_law y.cls → KA g s → meth.sig.returnType = none → meth.locks = false → meth.name = y.name → va_P g.2.2.1 vwCl w0 s.heap → va_D A w0 → (∀ q, s.heap.size ≤ q → A q) → A = va_A w0 s.heap.size → lv_has ls n (lv_args 0 av) → W p l e { frames := fr, cells := mc, slots := ms, locals := lo } s m args below meth c s.heap [] 0 0 (MQ below (QN g w0 s.heap.size Good) args s mc ms A) (F0 m 0 ls [])) :
    KN l y cc n fr lo mc ms g av w0 Good := by
  intro sz
  refine Met.ofW (cc := cc) (maxL := n) (ret := none) hy rfl ?_
  intro p e s m args below meth c s₁ B hml hv
  obtain ⟨rfl, hsz, hP, hK, hD0⟩ := hv
  subst hsz
  have hts := atoms_spec (ws := uw y cc n none) B.pre
  rw [lg_entry_eq]
  exact body p e s m _ below meth c _ _ ⟨B.exec, B.bytes, hml, findClass_of_methodNamed B.named, fun w h => hts w (List.mem_cons_of_mem _ h)⟩ hK B.returns B.notSynchronized (name_of_methodNamed B.named B.method).1 hP hD0.self (fun q h => Or.inr h) rfl (lv_entry av hn)
theorem n_ret {w0 w1 : va_W} {Good : va_W → Prop} (Z : CallFix p m c cc nL s args wsL_law own) (hr : meth.sig.returnType = none) (hlk : meth.locks = false) (hAe : A = va_A w0 s.heap.size) (hg : Good w1) (hP : va_P g.2.2.1 vwCl w1 H) (hD : va_D A w1) (hS : va_S A s.heap H locs) (hdg : decode cc pc = .ok (.return_, 1)) : W p l e R s m args below meth c H locs cells slots (MQ below (QN g w0 s.heap.size Good) args s cells slots A) (F0 m pc ls []) := by
  subst hAe
  exact W.vret Z.1 Z.2.1 hr (fun t ht hW => ⟨⟨(), rfl, trivial, w1, hg, by rw [ht]; exact hP, hD⟩, hS.F ht⟩) hS.2.2 hdg hlk
end NROWS
theorem dX0_init_0 : decode cX0_init 0 = .ok (.aload_n 0, 1) := by decide +kernel
theorem dX0_init_1 : decode cX0_init 1 = .ok (.invokespecial 3, 3) := by decide +kernel
theorem dX0_init_4 : decode cX0_init 4 = .ok (.aload_n 0, 1) := by decide +kernel
theorem dX0_init_5 : decode cX0_init 5 = .ok (.iconst (-1), 1) := by decide +kernel
theorem dX0_init_6 : decode cX0_init 6 = .ok (.putfield 9, 3) := by decide +kernel
theorem dX0_init_9 : decode cX0_init 9 = .ok (.aload_n 0, 1) := by decide +kernel
theorem dX0_init_10 : decode cX0_init 10 = .ok (.iconst (-1), 1) := by decide +kernel
theorem dX0_init_11 : decode cX0_init 11 = .ok (.putfield 15, 3) := by decide +kernel
theorem dX0_init_14 : decode cX0_init 14 = .ok (.aload_n 0, 1) := by decide +kernel
theorem dX0_init_15 : decode cX0_init 15 = .ok (.iconst (-1), 1) := by decide +kernel
theorem dX0_init_16 : decode cX0_init 16 = .ok (.putfield 18, 3) := by decide +kernel
theorem dX0_init_19 : decode cX0_init 19 = .ok (.return_, 1) := by decide +kernel
theorem dX1_init_0 : decode cX1_init 0 = .ok (.aload_n 0, 1) := by decide +kernel
theorem dX1_init_1 : decode cX1_init 1 = .ok (.invokespecial 3, 3) := by decide +kernel
theorem dX1_init_4 : decode cX1_init 4 = .ok (.aload_n 0, 1) := by decide +kernel
theorem dX1_init_5 : decode cX1_init 5 = .ok (.bipush 8, 2) := by decide +kernel
theorem dX1_init_7 : decode cX1_init 7 = .ok (.newarray .int, 2) := by decide +kernel
theorem dX1_init_9 : decode cX1_init 9 = .ok (.putfield 9, 3) := by decide +kernel
theorem dX1_init_12 : decode cX1_init 12 = .ok (.aload_n 0, 1) := by decide +kernel
theorem dX1_init_13 : decode cX1_init 13 = .ok (.bipush 8, 2) := by decide +kernel
theorem dX1_init_15 : decode cX1_init 15 = .ok (.newarray .int, 2) := by decide +kernel
theorem dX1_init_17 : decode cX1_init 17 = .ok (.putfield 15, 3) := by decide +kernel
theorem dX1_init_20 : decode cX1_init 20 = .ok (.aload_n 0, 1) := by decide +kernel
theorem dX1_init_21 : decode cX1_init 21 = .ok (.bipush 8, 2) := by decide +kernel
theorem dX1_init_23 : decode cX1_init 23 = .ok (.newarray .int, 2) := by decide +kernel
theorem dX1_init_25 : decode cX1_init 25 = .ok (.putfield 18, 3) := by decide +kernel
theorem dX1_init_28 : decode cX1_init 28 = .ok (.return_, 1) := by decide +kernel
theorem dX2_init_0 : decode cX2_init 0 = .ok (.aload_n 0, 1) := by decide +kernel
theorem dX2_init_1 : decode cX2_init 1 = .ok (.invokespecial 3, 3) := by decide +kernel
theorem dX2_init_4 : decode cX2_init 4 = .ok (.aload_n 0, 1) := by decide +kernel
theorem dX2_init_5 : decode cX2_init 5 = .ok (.bipush 8, 2) := by decide +kernel
theorem dX2_init_7 : decode cX2_init 7 = .ok (.newarray .int, 2) := by decide +kernel
theorem dX2_init_9 : decode cX2_init 9 = .ok (.putfield 9, 3) := by decide +kernel
theorem dX2_init_12 : decode cX2_init 12 = .ok (.aload_n 0, 1) := by decide +kernel
theorem dX2_init_13 : decode cX2_init 13 = .ok (.bipush 8, 2) := by decide +kernel
theorem dX2_init_15 : decode cX2_init 15 = .ok (.newarray .int, 2) := by decide +kernel
theorem dX2_init_17 : decode cX2_init 17 = .ok (.putfield 15, 3) := by decide +kernel
theorem dX2_init_20 : decode cX2_init 20 = .ok (.aload_n 0, 1) := by decide +kernel
theorem dX2_init_21 : decode cX2_init 21 = .ok (.bipush 8, 2) := by decide +kernel
theorem dX2_init_23 : decode cX2_init 23 = .ok (.newarray .int, 2) := by decide +kernel
theorem dX2_init_25 : decode cX2_init 25 = .ok (.putfield 18, 3) := by decide +kernel
theorem dX2_init_28 : decode cX2_init 28 = .ok (.return_, 1) := by decide +kernel
theorem dX3_init_0 : decode cX3_init 0 = .ok (.aload_n 0, 1) := by decide +kernel
theorem dX3_init_1 : decode cX3_init 1 = .ok (.invokespecial 3, 3) := by decide +kernel
theorem dX3_init_4 : decode cX3_init 4 = .ok (.aload_n 0, 1) := by decide +kernel
theorem dX3_init_5 : decode cX3_init 5 = .ok (.bipush 40, 2) := by decide +kernel
theorem dX3_init_7 : decode cX3_init 7 = .ok (.newarray .int, 2) := by decide +kernel
theorem dX3_init_9 : decode cX3_init 9 = .ok (.putfield 9, 3) := by decide +kernel
theorem dX3_init_12 : decode cX3_init 12 = .ok (.aload_n 0, 1) := by decide +kernel
theorem dX3_init_13 : decode cX3_init 13 = .ok (.bipush 40, 2) := by decide +kernel
theorem dX3_init_15 : decode cX3_init 15 = .ok (.newarray .int, 2) := by decide +kernel
theorem dX3_init_17 : decode cX3_init 17 = .ok (.putfield 15, 3) := by decide +kernel
theorem dX3_init_20 : decode cX3_init 20 = .ok (.aload_n 0, 1) := by decide +kernel
theorem dX3_init_21 : decode cX3_init 21 = .ok (.bipush 40, 2) := by decide +kernel
theorem dX3_init_23 : decode cX3_init 23 = .ok (.newarray .boolean, 2) := by decide +kernel
theorem dX3_init_25 : decode cX3_init 25 = .ok (.putfield 18, 3) := by decide +kernel
theorem dX3_init_28 : decode cX3_init 28 = .ok (.return_, 1) := by decide +kernel
theorem dX4_init_0 : decode cX4_init 0 = .ok (.aload_n 0, 1) := by decide +kernel
theorem dX4_init_1 : decode cX4_init 1 = .ok (.invokespecial 3, 3) := by decide +kernel
theorem dX4_init_4 : decode cX4_init 4 = .ok (.aload_n 0, 1) := by decide +kernel
theorem dX4_init_5 : decode cX4_init 5 = .ok (.bipush 40, 2) := by decide +kernel
theorem dX4_init_7 : decode cX4_init 7 = .ok (.newarray .int, 2) := by decide +kernel
theorem dX4_init_9 : decode cX4_init 9 = .ok (.putfield 9, 3) := by decide +kernel
theorem dX4_init_12 : decode cX4_init 12 = .ok (.aload_n 0, 1) := by decide +kernel
theorem dX4_init_13 : decode cX4_init 13 = .ok (.bipush 40, 2) := by decide +kernel
theorem dX4_init_15 : decode cX4_init 15 = .ok (.newarray .int, 2) := by decide +kernel
theorem dX4_init_17 : decode cX4_init 17 = .ok (.putfield 15, 3) := by decide +kernel
theorem dX4_init_20 : decode cX4_init 20 = .ok (.aload_n 0, 1) := by decide +kernel
theorem dX4_init_21 : decode cX4_init 21 = .ok (.bipush 40, 2) := by decide +kernel
theorem dX4_init_23 : decode cX4_init 23 = .ok (.newarray .int, 2) := by decide +kernel
theorem dX4_init_25 : decode cX4_init 25 = .ok (.putfield 18, 3) := by decide +kernel
theorem dX4_init_28 : decode cX4_init 28 = .ok (.aload_n 0, 1) := by decide +kernel
theorem dX4_init_29 : decode cX4_init 29 = .ok (.bipush 40, 2) := by decide +kernel
theorem dX4_init_31 : decode cX4_init 31 = .ok (.newarray .int, 2) := by decide +kernel
theorem dX4_init_33 : decode cX4_init 33 = .ok (.putfield 21, 3) := by decide +kernel
theorem dX4_init_36 : decode cX4_init 36 = .ok (.return_, 1) := by decide +kernel
theorem dX5_init_0 : decode cX5_init 0 = .ok (.aload_n 0, 1) := by decide +kernel
theorem dX5_init_1 : decode cX5_init 1 = .ok (.invokespecial 3, 3) := by decide +kernel
theorem dX5_init_4 : decode cX5_init 4 = .ok (.aload_n 0, 1) := by decide +kernel
theorem dX5_init_5 : decode cX5_init 5 = .ok (.bipush 8, 2) := by decide +kernel
theorem dX5_init_7 : decode cX5_init 7 = .ok (.newarray .int, 2) := by decide +kernel
theorem dX5_init_9 : decode cX5_init 9 = .ok (.putfield 9, 3) := by decide +kernel
theorem dX5_init_12 : decode cX5_init 12 = .ok (.aload_n 0, 1) := by decide +kernel
theorem dX5_init_13 : decode cX5_init 13 = .ok (.bipush 8, 2) := by decide +kernel
theorem dX5_init_15 : decode cX5_init 15 = .ok (.newarray .int, 2) := by decide +kernel
theorem dX5_init_17 : decode cX5_init 17 = .ok (.putfield 15, 3) := by decide +kernel
theorem dX5_init_20 : decode cX5_init 20 = .ok (.aload_n 0, 1) := by decide +kernel
theorem dX5_init_21 : decode cX5_init 21 = .ok (.bipush 8, 2) := by decide +kernel
theorem dX5_init_23 : decode cX5_init 23 = .ok (.newarray .int, 2) := by decide +kernel
theorem dX5_init_25 : decode cX5_init 25 = .ok (.putfield 18, 3) := by decide +kernel
theorem dX5_init_28 : decode cX5_init 28 = .ok (.aload_n 0, 1) := by decide +kernel
theorem dX5_init_29 : decode cX5_init 29 = .ok (.bipush 8, 2) := by decide +kernel
theorem dX5_init_31 : decode cX5_init 31 = .ok (.newarray .int, 2) := by decide +kernel
theorem dX5_init_33 : decode cX5_init 33 = .ok (.putfield 21, 3) := by decide +kernel
theorem dX5_init_36 : decode cX5_init 36 = .ok (.aload_n 0, 1) := by decide +kernel
theorem dX5_init_37 : decode cX5_init 37 = .ok (.bipush 32, 2) := by decide +kernel
theorem dX5_init_39 : decode cX5_init 39 = .ok (.newarray .int, 2) := by decide +kernel
theorem dX5_init_41 : decode cX5_init 41 = .ok (.putfield 24, 3) := by decide +kernel
theorem dX5_init_44 : decode cX5_init 44 = .ok (.return_, 1) := by decide +kernel
theorem dX6_init_0 : decode cX6_init 0 = .ok (.aload_n 0, 1) := by decide +kernel
theorem dX6_init_1 : decode cX6_init 1 = .ok (.invokespecial 3, 3) := by decide +kernel
theorem dX6_init_4 : decode cX6_init 4 = .ok (.aload_n 0, 1) := by decide +kernel
theorem dX6_init_5 : decode cX6_init 5 = .ok (.bipush 60, 2) := by decide +kernel
theorem dX6_init_7 : decode cX6_init 7 = .ok (.newarray .int, 2) := by decide +kernel
theorem dX6_init_9 : decode cX6_init 9 = .ok (.putfield 9, 3) := by decide +kernel
theorem dX6_init_12 : decode cX6_init 12 = .ok (.aload_n 0, 1) := by decide +kernel
theorem dX6_init_13 : decode cX6_init 13 = .ok (.iconst (-1), 1) := by decide +kernel
theorem dX6_init_14 : decode cX6_init 14 = .ok (.putfield 15, 3) := by decide +kernel
theorem dX6_init_17 : decode cX6_init 17 = .ok (.return_, 1) := by decide +kernel
theorem dX7_init_0 : decode cX7_init 0 = .ok (.aload_n 0, 1) := by decide +kernel
theorem dX7_init_1 : decode cX7_init 1 = .ok (.invokespecial 3, 3) := by decide +kernel
theorem dX7_init_4 : decode cX7_init 4 = .ok (.aload_n 0, 1) := by decide +kernel
theorem dX7_init_5 : decode cX7_init 5 = .ok (.iconst (-1), 1) := by decide +kernel
theorem dX7_init_6 : decode cX7_init 6 = .ok (.putfield 9, 3) := by decide +kernel
theorem dX7_init_9 : decode cX7_init 9 = .ok (.aload_n 0, 1) := by decide +kernel
theorem dX7_init_10 : decode cX7_init 10 = .ok (.iconst 0, 1) := by decide +kernel
theorem dX7_init_11 : decode cX7_init 11 = .ok (.iload_n 1, 1) := by decide +kernel
theorem dX7_init_12 : decode cX7_init 12 = .ok (.invokestatic 15, 3) := by decide +kernel
theorem dX7_init_15 : decode cX7_init 15 = .ok (.newarray .int, 2) := by decide +kernel
theorem dX7_init_17 : decode cX7_init 17 = .ok (.putfield 21, 3) := by decide +kernel
theorem dX7_init_20 : decode cX7_init 20 = .ok (.return_, 1) := by decide +kernel
theorem dX8_init_0 : decode cX8_init 0 = .ok (.aload_n 0, 1) := by decide +kernel
theorem dX8_init_1 : decode cX8_init 1 = .ok (.invokespecial 3, 3) := by decide +kernel
theorem dX8_init_4 : decode cX8_init 4 = .ok (.aload_n 0, 1) := by decide +kernel
theorem dX8_init_5 : decode cX8_init 5 = .ok (.bipush 8, 2) := by decide +kernel
theorem dX8_init_7 : decode cX8_init 7 = .ok (.newarray .int, 2) := by decide +kernel
theorem dX8_init_9 : decode cX8_init 9 = .ok (.putfield 9, 3) := by decide +kernel
theorem dX8_init_12 : decode cX8_init 12 = .ok (.aload_n 0, 1) := by decide +kernel
theorem dX8_init_13 : decode cX8_init 13 = .ok (.bipush 8, 2) := by decide +kernel
theorem dX8_init_15 : decode cX8_init 15 = .ok (.newarray .int, 2) := by decide +kernel
theorem dX8_init_17 : decode cX8_init 17 = .ok (.putfield 15, 3) := by decide +kernel
theorem dX8_init_20 : decode cX8_init 20 = .ok (.aload_n 0, 1) := by decide +kernel
theorem dX8_init_21 : decode cX8_init 21 = .ok (.bipush 8, 2) := by decide +kernel
theorem dX8_init_23 : decode cX8_init 23 = .ok (.newarray .int, 2) := by decide +kernel
theorem dX8_init_25 : decode cX8_init 25 = .ok (.putfield 18, 3) := by decide +kernel
theorem dX8_init_28 : decode cX8_init 28 = .ok (.aload_n 0, 1) := by decide +kernel
theorem dX8_init_29 : decode cX8_init 29 = .ok (.bipush 8, 2) := by decide +kernel
theorem dX8_init_31 : decode cX8_init 31 = .ok (.newarray .int, 2) := by decide +kernel
theorem dX8_init_33 : decode cX8_init 33 = .ok (.putfield 21, 3) := by decide +kernel
theorem dX8_init_36 : decode cX8_init 36 = .ok (.aload_n 0, 1) := by decide +kernel
theorem dX8_init_37 : decode cX8_init 37 = .ok (.iconst (-1), 1) := by decide +kernel
theorem dX8_init_38 : decode cX8_init 38 = .ok (.putfield 24, 3) := by decide +kernel
theorem dX8_init_41 : decode cX8_init 41 = .ok (.return_, 1) := by decide +kernel
theorem dX9_init_0 : decode cX9_init 0 = .ok (.aload_n 0, 1) := by decide +kernel
theorem dX9_init_1 : decode cX9_init 1 = .ok (.invokespecial 1, 3) := by decide +kernel
theorem dX9_init_4 : decode cX9_init 4 = .ok (.aload_n 0, 1) := by decide +kernel
theorem dX9_init_5 : decode cX9_init 5 = .ok (.iconst 2, 1) := by decide +kernel
theorem dX9_init_6 : decode cX9_init 6 = .ok (.anewarray 7, 3) := by decide +kernel
theorem dX9_init_9 : decode cX9_init 9 = .ok (.dup, 1) := by decide +kernel
theorem dX9_init_10 : decode cX9_init 10 = .ok (.iconst 0, 1) := by decide +kernel
theorem dX9_init_11 : decode cX9_init 11 = .ok (.new 7, 3) := by decide +kernel
theorem dX9_init_14 : decode cX9_init 14 = .ok (.dup, 1) := by decide +kernel
theorem dX9_init_15 : decode cX9_init 15 = .ok (.bipush 23, 2) := by decide +kernel
theorem dX9_init_17 : decode cX9_init 17 = .ok (.invokespecial 9, 3) := by decide +kernel
theorem dX9_init_20 : decode cX9_init 20 = .ok (.aastore, 1) := by decide +kernel
theorem dX9_init_21 : decode cX9_init 21 = .ok (.dup, 1) := by decide +kernel
theorem dX9_init_22 : decode cX9_init 22 = .ok (.iconst 1, 1) := by decide +kernel
theorem dX9_init_23 : decode cX9_init 23 = .ok (.new 7, 3) := by decide +kernel
theorem dX9_init_26 : decode cX9_init 26 = .ok (.dup, 1) := by decide +kernel
theorem dX9_init_27 : decode cX9_init 27 = .ok (.bipush 63, 2) := by decide +kernel
theorem dX9_init_29 : decode cX9_init 29 = .ok (.invokespecial 9, 3) := by decide +kernel
theorem dX9_init_32 : decode cX9_init 32 = .ok (.aastore, 1) := by decide +kernel
theorem dX9_init_33 : decode cX9_init 33 = .ok (.putfield 12, 3) := by decide +kernel
theorem dX9_init_36 : decode cX9_init 36 = .ok (.aload_n 0, 1) := by decide +kernel
theorem dX9_init_37 : decode cX9_init 37 = .ok (.new 18, 3) := by decide +kernel
theorem dX9_init_40 : decode cX9_init 40 = .ok (.dup, 1) := by decide +kernel
theorem dX9_init_41 : decode cX9_init 41 = .ok (.invokespecial 20, 3) := by decide +kernel
theorem dX9_init_44 : decode cX9_init 44 = .ok (.putfield 21, 3) := by decide +kernel
theorem dX9_init_47 : decode cX9_init 47 = .ok (.aload_n 0, 1) := by decide +kernel
theorem dX9_init_48 : decode cX9_init 48 = .ok (.new 25, 3) := by decide +kernel
theorem dX9_init_51 : decode cX9_init 51 = .ok (.dup, 1) := by decide +kernel
theorem dX9_init_52 : decode cX9_init 52 = .ok (.invokespecial 27, 3) := by decide +kernel
theorem dX9_init_55 : decode cX9_init 55 = .ok (.putfield 28, 3) := by decide +kernel
theorem dX9_init_58 : decode cX9_init 58 = .ok (.aload_n 0, 1) := by decide +kernel
theorem dX9_init_59 : decode cX9_init 59 = .ok (.new 32, 3) := by decide +kernel
theorem dX9_init_62 : decode cX9_init 62 = .ok (.dup, 1) := by decide +kernel
theorem dX9_init_63 : decode cX9_init 63 = .ok (.invokespecial 34, 3) := by decide +kernel
theorem dX9_init_66 : decode cX9_init 66 = .ok (.putfield 35, 3) := by decide +kernel
theorem dX9_init_69 : decode cX9_init 69 = .ok (.aload_n 0, 1) := by decide +kernel
theorem dX9_init_70 : decode cX9_init 70 = .ok (.new 39, 3) := by decide +kernel
theorem dX9_init_73 : decode cX9_init 73 = .ok (.dup, 1) := by decide +kernel
theorem dX9_init_74 : decode cX9_init 74 = .ok (.invokespecial 41, 3) := by decide +kernel
theorem dX9_init_77 : decode cX9_init 77 = .ok (.putfield 42, 3) := by decide +kernel
theorem dX9_init_80 : decode cX9_init 80 = .ok (.aload_n 0, 1) := by decide +kernel
theorem dX9_init_81 : decode cX9_init 81 = .ok (.iconst 4, 1) := by decide +kernel
theorem dX9_init_82 : decode cX9_init 82 = .ok (.anewarray 46, 3) := by decide +kernel
theorem dX9_init_85 : decode cX9_init 85 = .ok (.dup, 1) := by decide +kernel
theorem dX9_init_86 : decode cX9_init 86 = .ok (.iconst 0, 1) := by decide +kernel
theorem dX9_init_87 : decode cX9_init 87 = .ok (.new 46, 3) := by decide +kernel
theorem dX9_init_90 : decode cX9_init 90 = .ok (.dup, 1) := by decide +kernel
theorem dX9_init_91 : decode cX9_init 91 = .ok (.invokespecial 48, 3) := by decide +kernel
theorem dX9_init_94 : decode cX9_init 94 = .ok (.aastore, 1) := by decide +kernel
theorem dX9_init_95 : decode cX9_init 95 = .ok (.dup, 1) := by decide +kernel
theorem dX9_init_96 : decode cX9_init 96 = .ok (.iconst 1, 1) := by decide +kernel
theorem dX9_init_97 : decode cX9_init 97 = .ok (.new 46, 3) := by decide +kernel
theorem dX9_init_100 : decode cX9_init 100 = .ok (.dup, 1) := by decide +kernel
theorem dX9_init_101 : decode cX9_init 101 = .ok (.invokespecial 48, 3) := by decide +kernel
theorem dX9_init_104 : decode cX9_init 104 = .ok (.aastore, 1) := by decide +kernel
theorem dX9_init_105 : decode cX9_init 105 = .ok (.dup, 1) := by decide +kernel
theorem dX9_init_106 : decode cX9_init 106 = .ok (.iconst 2, 1) := by decide +kernel
theorem dX9_init_107 : decode cX9_init 107 = .ok (.new 46, 3) := by decide +kernel
theorem dX9_init_110 : decode cX9_init 110 = .ok (.dup, 1) := by decide +kernel
theorem dX9_init_111 : decode cX9_init 111 = .ok (.invokespecial 48, 3) := by decide +kernel
theorem dX9_init_114 : decode cX9_init 114 = .ok (.aastore, 1) := by decide +kernel
theorem dX9_init_115 : decode cX9_init 115 = .ok (.dup, 1) := by decide +kernel
theorem dX9_init_116 : decode cX9_init 116 = .ok (.iconst 3, 1) := by decide +kernel
theorem dX9_init_117 : decode cX9_init 117 = .ok (.new 46, 3) := by decide +kernel
theorem dX9_init_120 : decode cX9_init 120 = .ok (.dup, 1) := by decide +kernel
theorem dX9_init_121 : decode cX9_init 121 = .ok (.invokespecial 48, 3) := by decide +kernel
theorem dX9_init_124 : decode cX9_init 124 = .ok (.aastore, 1) := by decide +kernel
theorem dX9_init_125 : decode cX9_init 125 = .ok (.putfield 49, 3) := by decide +kernel
theorem dX9_init_128 : decode cX9_init 128 = .ok (.aload_n 0, 1) := by decide +kernel
theorem dX9_init_129 : decode cX9_init 129 = .ok (.new 53, 3) := by decide +kernel
theorem dX9_init_132 : decode cX9_init 132 = .ok (.dup, 1) := by decide +kernel
theorem dX9_init_133 : decode cX9_init 133 = .ok (.invokespecial 55, 3) := by decide +kernel
theorem dX9_init_136 : decode cX9_init 136 = .ok (.putfield 56, 3) := by decide +kernel
theorem dX9_init_139 : decode cX9_init 139 = .ok (.aload_n 0, 1) := by decide +kernel
theorem dX9_init_140 : decode cX9_init 140 = .ok (.bipush 8, 2) := by decide +kernel
theorem dX9_init_142 : decode cX9_init 142 = .ok (.anewarray 60, 3) := by decide +kernel
theorem dX9_init_145 : decode cX9_init 145 = .ok (.dup, 1) := by decide +kernel
theorem dX9_init_146 : decode cX9_init 146 = .ok (.iconst 0, 1) := by decide +kernel
theorem dX9_init_147 : decode cX9_init 147 = .ok (.new 60, 3) := by decide +kernel
theorem dX9_init_150 : decode cX9_init 150 = .ok (.dup, 1) := by decide +kernel
theorem dX9_init_151 : decode cX9_init 151 = .ok (.invokespecial 62, 3) := by decide +kernel
theorem dX9_init_154 : decode cX9_init 154 = .ok (.aastore, 1) := by decide +kernel
theorem dX9_init_155 : decode cX9_init 155 = .ok (.dup, 1) := by decide +kernel
theorem dX9_init_156 : decode cX9_init 156 = .ok (.iconst 1, 1) := by decide +kernel
theorem dX9_init_157 : decode cX9_init 157 = .ok (.new 60, 3) := by decide +kernel
theorem dX9_init_160 : decode cX9_init 160 = .ok (.dup, 1) := by decide +kernel
theorem dX9_init_161 : decode cX9_init 161 = .ok (.invokespecial 62, 3) := by decide +kernel
theorem dX9_init_164 : decode cX9_init 164 = .ok (.aastore, 1) := by decide +kernel
theorem dX9_init_165 : decode cX9_init 165 = .ok (.dup, 1) := by decide +kernel
theorem dX9_init_166 : decode cX9_init 166 = .ok (.iconst 2, 1) := by decide +kernel
theorem dX9_init_167 : decode cX9_init 167 = .ok (.new 60, 3) := by decide +kernel
theorem dX9_init_170 : decode cX9_init 170 = .ok (.dup, 1) := by decide +kernel
theorem dX9_init_171 : decode cX9_init 171 = .ok (.invokespecial 62, 3) := by decide +kernel
theorem dX9_init_174 : decode cX9_init 174 = .ok (.aastore, 1) := by decide +kernel
theorem dX9_init_175 : decode cX9_init 175 = .ok (.dup, 1) := by decide +kernel
theorem dX9_init_176 : decode cX9_init 176 = .ok (.iconst 3, 1) := by decide +kernel
theorem dX9_init_177 : decode cX9_init 177 = .ok (.new 60, 3) := by decide +kernel
theorem dX9_init_180 : decode cX9_init 180 = .ok (.dup, 1) := by decide +kernel
theorem dX9_init_181 : decode cX9_init 181 = .ok (.invokespecial 62, 3) := by decide +kernel
theorem dX9_init_184 : decode cX9_init 184 = .ok (.aastore, 1) := by decide +kernel
theorem dX9_init_185 : decode cX9_init 185 = .ok (.dup, 1) := by decide +kernel
theorem dX9_init_186 : decode cX9_init 186 = .ok (.iconst 4, 1) := by decide +kernel
theorem dX9_init_187 : decode cX9_init 187 = .ok (.new 60, 3) := by decide +kernel
theorem dX9_init_190 : decode cX9_init 190 = .ok (.dup, 1) := by decide +kernel
theorem dX9_init_191 : decode cX9_init 191 = .ok (.invokespecial 62, 3) := by decide +kernel
theorem dX9_init_194 : decode cX9_init 194 = .ok (.aastore, 1) := by decide +kernel
theorem dX9_init_195 : decode cX9_init 195 = .ok (.dup, 1) := by decide +kernel
theorem dX9_init_196 : decode cX9_init 196 = .ok (.iconst 5, 1) := by decide +kernel
theorem dX9_init_197 : decode cX9_init 197 = .ok (.new 60, 3) := by decide +kernel
theorem dX9_init_200 : decode cX9_init 200 = .ok (.dup, 1) := by decide +kernel
theorem dX9_init_201 : decode cX9_init 201 = .ok (.invokespecial 62, 3) := by decide +kernel
theorem dX9_init_204 : decode cX9_init 204 = .ok (.aastore, 1) := by decide +kernel
theorem dX9_init_205 : decode cX9_init 205 = .ok (.dup, 1) := by decide +kernel
theorem dX9_init_206 : decode cX9_init 206 = .ok (.bipush 6, 2) := by decide +kernel
theorem dX9_init_208 : decode cX9_init 208 = .ok (.new 60, 3) := by decide +kernel
theorem dX9_init_211 : decode cX9_init 211 = .ok (.dup, 1) := by decide +kernel
theorem dX9_init_212 : decode cX9_init 212 = .ok (.invokespecial 62, 3) := by decide +kernel
theorem dX9_init_215 : decode cX9_init 215 = .ok (.aastore, 1) := by decide +kernel
theorem dX9_init_216 : decode cX9_init 216 = .ok (.dup, 1) := by decide +kernel
theorem dX9_init_217 : decode cX9_init 217 = .ok (.bipush 7, 2) := by decide +kernel
theorem dX9_init_219 : decode cX9_init 219 = .ok (.new 60, 3) := by decide +kernel
theorem dX9_init_222 : decode cX9_init 222 = .ok (.dup, 1) := by decide +kernel
theorem dX9_init_223 : decode cX9_init 223 = .ok (.invokespecial 62, 3) := by decide +kernel
theorem dX9_init_226 : decode cX9_init 226 = .ok (.aastore, 1) := by decide +kernel
theorem dX9_init_227 : decode cX9_init 227 = .ok (.putfield 63, 3) := by decide +kernel
theorem dX9_init_230 : decode cX9_init 230 = .ok (.aload_n 0, 1) := by decide +kernel
theorem dX9_init_231 : decode cX9_init 231 = .ok (.iconst 1, 1) := by decide +kernel
theorem dX9_init_232 : decode cX9_init 232 = .ok (.putfield 67, 3) := by decide +kernel
theorem dX9_init_235 : decode cX9_init 235 = .ok (.aload_n 0, 1) := by decide +kernel
theorem dX9_init_236 : decode cX9_init 236 = .ok (.new 18, 3) := by decide +kernel
theorem dX9_init_239 : decode cX9_init 239 = .ok (.dup, 1) := by decide +kernel
theorem dX9_init_240 : decode cX9_init 240 = .ok (.invokespecial 20, 3) := by decide +kernel
theorem dX9_init_243 : decode cX9_init 243 = .ok (.putfield 71, 3) := by decide +kernel
theorem dX9_init_246 : decode cX9_init 246 = .ok (.aload_n 0, 1) := by decide +kernel
theorem dX9_init_247 : decode cX9_init 247 = .ok (.new 53, 3) := by decide +kernel
theorem dX9_init_250 : decode cX9_init 250 = .ok (.dup, 1) := by decide +kernel
theorem dX9_init_251 : decode cX9_init 251 = .ok (.invokespecial 55, 3) := by decide +kernel
theorem dX9_init_254 : decode cX9_init 254 = .ok (.putfield 74, 3) := by decide +kernel
theorem dX9_init_257 : decode cX9_init 257 = .ok (.aload_n 0, 1) := by decide +kernel
theorem dX9_init_258 : decode cX9_init 258 = .ok (.new 32, 3) := by decide +kernel
theorem dX9_init_261 : decode cX9_init 261 = .ok (.dup, 1) := by decide +kernel
theorem dX9_init_262 : decode cX9_init 262 = .ok (.invokespecial 34, 3) := by decide +kernel
theorem dX9_init_265 : decode cX9_init 265 = .ok (.putfield 77, 3) := by decide +kernel
theorem dX9_init_268 : decode cX9_init 268 = .ok (.aload_n 0, 1) := by decide +kernel
theorem dX9_init_269 : decode cX9_init 269 = .ok (.new 60, 3) := by decide +kernel
theorem dX9_init_272 : decode cX9_init 272 = .ok (.dup, 1) := by decide +kernel
theorem dX9_init_273 : decode cX9_init 273 = .ok (.invokespecial 62, 3) := by decide +kernel
theorem dX9_init_276 : decode cX9_init 276 = .ok (.putfield 80, 3) := by decide +kernel
theorem dX9_init_279 : decode cX9_init 279 = .ok (.aload_n 0, 1) := by decide +kernel
theorem dX9_init_280 : decode cX9_init 280 = .ok (.sipush 400, 3) := by decide +kernel
theorem dX9_init_283 : decode cX9_init 283 = .ok (.newarray .int, 2) := by decide +kernel
theorem dX9_init_285 : decode cX9_init 285 = .ok (.putfield 84, 3) := by decide +kernel
theorem dX9_init_288 : decode cX9_init 288 = .ok (.aload_n 0, 1) := by decide +kernel
theorem dX9_init_289 : decode cX9_init 289 = .ok (.bipush 9, 2) := by decide +kernel
theorem dX9_init_291 : decode cX9_init 291 = .ok (.newarray .int, 2) := by decide +kernel
theorem dX9_init_293 : decode cX9_init 293 = .ok (.putfield 88, 3) := by decide +kernel
theorem dX9_init_296 : decode cX9_init 296 = .ok (.aload_n 0, 1) := by decide +kernel
theorem dX9_init_297 : decode cX9_init 297 = .ok (.bipush 8, 2) := by decide +kernel
theorem dX9_init_299 : decode cX9_init 299 = .ok (.anewarray 91, 3) := by decide +kernel
theorem dX9_init_302 : decode cX9_init 302 = .ok (.dup, 1) := by decide +kernel
theorem dX9_init_303 : decode cX9_init 303 = .ok (.iconst 0, 1) := by decide +kernel
theorem dX9_init_304 : decode cX9_init 304 = .ok (.new 91, 3) := by decide +kernel
theorem dX9_init_307 : decode cX9_init 307 = .ok (.dup, 1) := by decide +kernel
theorem dX9_init_308 : decode cX9_init 308 = .ok (.invokespecial 93, 3) := by decide +kernel
theorem dX9_init_311 : decode cX9_init 311 = .ok (.aastore, 1) := by decide +kernel
theorem dX9_init_312 : decode cX9_init 312 = .ok (.dup, 1) := by decide +kernel
theorem dX9_init_313 : decode cX9_init 313 = .ok (.iconst 1, 1) := by decide +kernel
theorem dX9_init_314 : decode cX9_init 314 = .ok (.new 91, 3) := by decide +kernel
theorem dX9_init_317 : decode cX9_init 317 = .ok (.dup, 1) := by decide +kernel
theorem dX9_init_318 : decode cX9_init 318 = .ok (.invokespecial 93, 3) := by decide +kernel
theorem dX9_init_321 : decode cX9_init 321 = .ok (.aastore, 1) := by decide +kernel
theorem dX9_init_322 : decode cX9_init 322 = .ok (.dup, 1) := by decide +kernel
theorem dX9_init_323 : decode cX9_init 323 = .ok (.iconst 2, 1) := by decide +kernel
theorem dX9_init_324 : decode cX9_init 324 = .ok (.new 91, 3) := by decide +kernel
theorem dX9_init_327 : decode cX9_init 327 = .ok (.dup, 1) := by decide +kernel
theorem dX9_init_328 : decode cX9_init 328 = .ok (.invokespecial 93, 3) := by decide +kernel
theorem dX9_init_331 : decode cX9_init 331 = .ok (.aastore, 1) := by decide +kernel
theorem dX9_init_332 : decode cX9_init 332 = .ok (.dup, 1) := by decide +kernel
theorem dX9_init_333 : decode cX9_init 333 = .ok (.iconst 3, 1) := by decide +kernel
theorem dX9_init_334 : decode cX9_init 334 = .ok (.new 91, 3) := by decide +kernel
theorem dX9_init_337 : decode cX9_init 337 = .ok (.dup, 1) := by decide +kernel
theorem dX9_init_338 : decode cX9_init 338 = .ok (.invokespecial 93, 3) := by decide +kernel
theorem dX9_init_341 : decode cX9_init 341 = .ok (.aastore, 1) := by decide +kernel
theorem dX9_init_342 : decode cX9_init 342 = .ok (.dup, 1) := by decide +kernel
theorem dX9_init_343 : decode cX9_init 343 = .ok (.iconst 4, 1) := by decide +kernel
theorem dX9_init_344 : decode cX9_init 344 = .ok (.new 91, 3) := by decide +kernel
theorem dX9_init_347 : decode cX9_init 347 = .ok (.dup, 1) := by decide +kernel
theorem dX9_init_348 : decode cX9_init 348 = .ok (.invokespecial 93, 3) := by decide +kernel
theorem dX9_init_351 : decode cX9_init 351 = .ok (.aastore, 1) := by decide +kernel
theorem dX9_init_352 : decode cX9_init 352 = .ok (.dup, 1) := by decide +kernel
theorem dX9_init_353 : decode cX9_init 353 = .ok (.iconst 5, 1) := by decide +kernel
theorem dX9_init_354 : decode cX9_init 354 = .ok (.new 91, 3) := by decide +kernel
theorem dX9_init_357 : decode cX9_init 357 = .ok (.dup, 1) := by decide +kernel
theorem dX9_init_358 : decode cX9_init 358 = .ok (.invokespecial 93, 3) := by decide +kernel
theorem dX9_init_361 : decode cX9_init 361 = .ok (.aastore, 1) := by decide +kernel
theorem dX9_init_362 : decode cX9_init 362 = .ok (.dup, 1) := by decide +kernel
theorem dX9_init_363 : decode cX9_init 363 = .ok (.bipush 6, 2) := by decide +kernel
theorem dX9_init_365 : decode cX9_init 365 = .ok (.new 91, 3) := by decide +kernel
theorem dX9_init_368 : decode cX9_init 368 = .ok (.dup, 1) := by decide +kernel
theorem dX9_init_369 : decode cX9_init 369 = .ok (.invokespecial 93, 3) := by decide +kernel
theorem dX9_init_372 : decode cX9_init 372 = .ok (.aastore, 1) := by decide +kernel
theorem dX9_init_373 : decode cX9_init 373 = .ok (.dup, 1) := by decide +kernel
theorem dX9_init_374 : decode cX9_init 374 = .ok (.bipush 7, 2) := by decide +kernel
theorem dX9_init_376 : decode cX9_init 376 = .ok (.new 91, 3) := by decide +kernel
theorem dX9_init_379 : decode cX9_init 379 = .ok (.dup, 1) := by decide +kernel
theorem dX9_init_380 : decode cX9_init 380 = .ok (.invokespecial 93, 3) := by decide +kernel
theorem dX9_init_383 : decode cX9_init 383 = .ok (.aastore, 1) := by decide +kernel
theorem dX9_init_384 : decode cX9_init 384 = .ok (.putfield 94, 3) := by decide +kernel
theorem dX9_init_387 : decode cX9_init 387 = .ok (.aload_n 0, 1) := by decide +kernel
theorem dX9_init_388 : decode cX9_init 388 = .ok (.iconst 1, 1) := by decide +kernel
theorem dX9_init_389 : decode cX9_init 389 = .ok (.putfield 98, 3) := by decide +kernel
theorem dX9_init_392 : decode cX9_init 392 = .ok (.return_, 1) := by decide +kernel
theorem dX10_init_0 : decode cX10_init 0 = .ok (.aload_n 0, 1) := by decide +kernel
theorem dX10_init_1 : decode cX10_init 1 = .ok (.invokespecial 1, 3) := by decide +kernel
theorem dX10_init_4 : decode cX10_init 4 = .ok (.aload_n 0, 1) := by decide +kernel
theorem dX10_init_5 : decode cX10_init 5 = .ok (.iconst 4, 1) := by decide +kernel
theorem dX10_init_6 : decode cX10_init 6 = .ok (.newarray .int, 2) := by decide +kernel
theorem dX10_init_8 : decode cX10_init 8 = .ok (.putfield 7, 3) := by decide +kernel
theorem dX10_init_11 : decode cX10_init 11 = .ok (.aload_n 0, 1) := by decide +kernel
theorem dX10_init_12 : decode cX10_init 12 = .ok (.iconst 4, 1) := by decide +kernel
theorem dX10_init_13 : decode cX10_init 13 = .ok (.newarray .int, 2) := by decide +kernel
theorem dX10_init_15 : decode cX10_init 15 = .ok (.putfield 13, 3) := by decide +kernel
theorem dX10_init_18 : decode cX10_init 18 = .ok (.aload_n 0, 1) := by decide +kernel
theorem dX10_init_19 : decode cX10_init 19 = .ok (.sipush 240, 3) := by decide +kernel
theorem dX10_init_22 : decode cX10_init 22 = .ok (.newarray .int, 2) := by decide +kernel
theorem dX10_init_24 : decode cX10_init 24 = .ok (.putfield 16, 3) := by decide +kernel
theorem dX10_init_27 : decode cX10_init 27 = .ok (.aload_n 0, 1) := by decide +kernel
theorem dX10_init_28 : decode cX10_init 28 = .ok (.bipush 60, 2) := by decide +kernel
theorem dX10_init_30 : decode cX10_init 30 = .ok (.newarray .int, 2) := by decide +kernel
theorem dX10_init_32 : decode cX10_init 32 = .ok (.putfield 19, 3) := by decide +kernel
theorem dX10_init_35 : decode cX10_init 35 = .ok (.aload_n 0, 1) := by decide +kernel
theorem dX10_init_36 : decode cX10_init 36 = .ok (.sipush 128, 3) := by decide +kernel
theorem dX10_init_39 : decode cX10_init 39 = .ok (.newarray .int, 2) := by decide +kernel
theorem dX10_init_41 : decode cX10_init 41 = .ok (.putfield 22, 3) := by decide +kernel
theorem dX10_init_44 : decode cX10_init 44 = .ok (.aload_n 0, 1) := by decide +kernel
theorem dX10_init_45 : decode cX10_init 45 = .ok (.iconst 2, 1) := by decide +kernel
theorem dX10_init_46 : decode cX10_init 46 = .ok (.newarray .int, 2) := by decide +kernel
theorem dX10_init_48 : decode cX10_init 48 = .ok (.putfield 25, 3) := by decide +kernel
theorem dX10_init_51 : decode cX10_init 51 = .ok (.aload_n 0, 1) := by decide +kernel
theorem dX10_init_52 : decode cX10_init 52 = .ok (.bipush 16, 2) := by decide +kernel
theorem dX10_init_54 : decode cX10_init 54 = .ok (.newarray .int, 2) := by decide +kernel
theorem dX10_init_56 : decode cX10_init 56 = .ok (.putfield 28, 3) := by decide +kernel
theorem dX10_init_59 : decode cX10_init 59 = .ok (.aload_n 0, 1) := by decide +kernel
theorem dX10_init_60 : decode cX10_init 60 = .ok (.bipush 64, 2) := by decide +kernel
theorem dX10_init_62 : decode cX10_init 62 = .ok (.newarray .int, 2) := by decide +kernel
theorem dX10_init_64 : decode cX10_init 64 = .ok (.putfield 31, 3) := by decide +kernel
theorem dX10_init_67 : decode cX10_init 67 = .ok (.aload_n 0, 1) := by decide +kernel
theorem dX10_init_68 : decode cX10_init 68 = .ok (.bipush 24, 2) := by decide +kernel
theorem dX10_init_70 : decode cX10_init 70 = .ok (.newarray .int, 2) := by decide +kernel
theorem dX10_init_72 : decode cX10_init 72 = .ok (.putfield 34, 3) := by decide +kernel
theorem dX10_init_75 : decode cX10_init 75 = .ok (.aload_n 0, 1) := by decide +kernel
theorem dX10_init_76 : decode cX10_init 76 = .ok (.bipush 8, 2) := by decide +kernel
theorem dX10_init_78 : decode cX10_init 78 = .ok (.newarray .int, 2) := by decide +kernel
theorem dX10_init_80 : decode cX10_init 80 = .ok (.putfield 37, 3) := by decide +kernel
theorem dX10_init_83 : decode cX10_init 83 = .ok (.aload_n 0, 1) := by decide +kernel
theorem dX10_init_84 : decode cX10_init 84 = .ok (.bipush 8, 2) := by decide +kernel
theorem dX10_init_86 : decode cX10_init 86 = .ok (.newarray .int, 2) := by decide +kernel
theorem dX10_init_88 : decode cX10_init 88 = .ok (.putfield 40, 3) := by decide +kernel
theorem dX10_init_91 : decode cX10_init 91 = .ok (.aload_n 0, 1) := by decide +kernel
theorem dX10_init_92 : decode cX10_init 92 = .ok (.bipush 8, 2) := by decide +kernel
theorem dX10_init_94 : decode cX10_init 94 = .ok (.newarray .int, 2) := by decide +kernel
theorem dX10_init_96 : decode cX10_init 96 = .ok (.putfield 43, 3) := by decide +kernel
theorem dX10_init_99 : decode cX10_init 99 = .ok (.aload_n 0, 1) := by decide +kernel
theorem dX10_init_100 : decode cX10_init 100 = .ok (.bipush 8, 2) := by decide +kernel
theorem dX10_init_102 : decode cX10_init 102 = .ok (.newarray .int, 2) := by decide +kernel
theorem dX10_init_104 : decode cX10_init 104 = .ok (.putfield 46, 3) := by decide +kernel
theorem dX10_init_107 : decode cX10_init 107 = .ok (.aload_n 0, 1) := by decide +kernel
theorem dX10_init_108 : decode cX10_init 108 = .ok (.bipush 8, 2) := by decide +kernel
theorem dX10_init_110 : decode cX10_init 110 = .ok (.newarray .int, 2) := by decide +kernel
theorem dX10_init_112 : decode cX10_init 112 = .ok (.putfield 49, 3) := by decide +kernel
theorem dX10_init_115 : decode cX10_init 115 = .ok (.aload_n 0, 1) := by decide +kernel
theorem dX10_init_116 : decode cX10_init 116 = .ok (.bipush 8, 2) := by decide +kernel
theorem dX10_init_118 : decode cX10_init 118 = .ok (.newarray .boolean, 2) := by decide +kernel
theorem dX10_init_120 : decode cX10_init 120 = .ok (.putfield 52, 3) := by decide +kernel
theorem dX10_init_123 : decode cX10_init 123 = .ok (.aload_n 0, 1) := by decide +kernel
theorem dX10_init_124 : decode cX10_init 124 = .ok (.sipush 320, 3) := by decide +kernel
theorem dX10_init_127 : decode cX10_init 127 = .ok (.newarray .int, 2) := by decide +kernel
theorem dX10_init_129 : decode cX10_init 129 = .ok (.putfield 56, 3) := by decide +kernel
theorem dX10_init_132 : decode cX10_init 132 = .ok (.aload_n 0, 1) := by decide +kernel
theorem dX10_init_133 : decode cX10_init 133 = .ok (.sipush 320, 3) := by decide +kernel
theorem dX10_init_136 : decode cX10_init 136 = .ok (.newarray .int, 2) := by decide +kernel
theorem dX10_init_138 : decode cX10_init 138 = .ok (.putfield 59, 3) := by decide +kernel
theorem dX10_init_141 : decode cX10_init 141 = .ok (.aload_n 0, 1) := by decide +kernel
theorem dX10_init_142 : decode cX10_init 142 = .ok (.sipush 320, 3) := by decide +kernel
theorem dX10_init_145 : decode cX10_init 145 = .ok (.newarray .int, 2) := by decide +kernel
theorem dX10_init_147 : decode cX10_init 147 = .ok (.putfield 62, 3) := by decide +kernel
theorem dX10_init_150 : decode cX10_init 150 = .ok (.aload_n 0, 1) := by decide +kernel
theorem dX10_init_151 : decode cX10_init 151 = .ok (.sipush 320, 3) := by decide +kernel
theorem dX10_init_154 : decode cX10_init 154 = .ok (.newarray .int, 2) := by decide +kernel
theorem dX10_init_156 : decode cX10_init 156 = .ok (.putfield 65, 3) := by decide +kernel
theorem dX10_init_159 : decode cX10_init 159 = .ok (.aload_n 0, 1) := by decide +kernel
theorem dX10_init_160 : decode cX10_init 160 = .ok (.bipush 24, 2) := by decide +kernel
theorem dX10_init_162 : decode cX10_init 162 = .ok (.newarray .int, 2) := by decide +kernel
theorem dX10_init_164 : decode cX10_init 164 = .ok (.putfield 68, 3) := by decide +kernel
theorem dX10_init_167 : decode cX10_init 167 = .ok (.aload_n 0, 1) := by decide +kernel
theorem dX10_init_168 : decode cX10_init 168 = .ok (.sipush 400, 3) := by decide +kernel
theorem dX10_init_171 : decode cX10_init 171 = .ok (.newarray .int, 2) := by decide +kernel
theorem dX10_init_173 : decode cX10_init 173 = .ok (.putfield 71, 3) := by decide +kernel
theorem dX10_init_176 : decode cX10_init 176 = .ok (.aload_n 0, 1) := by decide +kernel
theorem dX10_init_177 : decode cX10_init 177 = .ok (.bipush 24, 2) := by decide +kernel
theorem dX10_init_179 : decode cX10_init 179 = .ok (.newarray .int, 2) := by decide +kernel
theorem dX10_init_181 : decode cX10_init 181 = .ok (.putfield 74, 3) := by decide +kernel
theorem dX10_init_184 : decode cX10_init 184 = .ok (.iconst 0, 1) := by decide +kernel
theorem dX10_init_185 : decode cX10_init 185 = .ok (.istore_n 1, 1) := by decide +kernel
theorem dX10_init_186 : decode cX10_init 186 = .ok (.iload_n 1, 1) := by decide +kernel
theorem dX10_init_187 : decode cX10_init 187 = .ok (.iconst 4, 1) := by decide +kernel
theorem dX10_init_188 : decode cX10_init 188 = .ok (.if_icmp .ge 16, 3) := by decide +kernel
theorem dX10_init_191 : decode cX10_init 191 = .ok (.aload_n 0, 1) := by decide +kernel
theorem dX10_init_192 : decode cX10_init 192 = .ok (.getfield 7, 3) := by decide +kernel
theorem dX10_init_195 : decode cX10_init 195 = .ok (.iload_n 1, 1) := by decide +kernel
theorem dX10_init_196 : decode cX10_init 196 = .ok (.iconst (-1), 1) := by decide +kernel
theorem dX10_init_197 : decode cX10_init 197 = .ok (.iastore, 1) := by decide +kernel
theorem dX10_init_198 : decode cX10_init 198 = .ok (.iinc 1 1, 3) := by decide +kernel
theorem dX10_init_201 : decode cX10_init 201 = .ok (.goto (-15), 3) := by decide +kernel
theorem dX10_init_204 : decode cX10_init 204 = .ok (.aload_n 0, 1) := by decide +kernel
theorem dX10_init_205 : decode cX10_init 205 = .ok (.iconst (-1), 1) := by decide +kernel
theorem dX10_init_206 : decode cX10_init 206 = .ok (.putfield 77, 3) := by decide +kernel
theorem dX10_init_209 : decode cX10_init 209 = .ok (.return_, 1) := by decide +kernel
theorem mf_X0_init : mFix yX0_init cX0_init 1 none 0 := ⟨wd_5_19, wd_3_6, by decide +kernel⟩
theorem mf_X1_init : mFix yX1_init cX1_init 1 none 0 := ⟨wd_4_18, wd_2_6, by decide +kernel⟩
theorem mf_X2_init : mFix yX2_init cX2_init 1 none 0 := ⟨wd_4_12, wd_2_2, by decide +kernel⟩
theorem mf_X3_init : mFix yX3_init cX3_init 1 none 0 := ⟨wd_5_5, wd_2_14, by decide +kernel⟩
theorem mf_X4_init : mFix yX4_init cX4_init 1 none 0 := ⟨wd_5_12, wd_2_18, by decide +kernel⟩
theorem mf_X5_init : mFix yX5_init cX5_init 1 none 0 := ⟨wd_4_4, wd_1_22, by decide +kernel⟩
theorem mf_X6_init : mFix yX6_init cX6_init 1 none 0 := ⟨wd_5_0, wd_2_10, by decide +kernel⟩
theorem mf_X7_init : mFix yX7_init cX7_init 2 none 1 := ⟨wd_3_11, wd_1_14, by decide +kernel⟩
theorem mf_X8_init : mFix yX8_init cX8_init 1 none 0 := ⟨wd_3_20, wd_1_18, by decide +kernel⟩
theorem mf_X9_init : mFix yX9_init cX9_init 1 none 0 := ⟨wd_1_8, wd_1_2, by decide +kernel⟩
theorem mf_X10_init : mFix yX10_init cX10_init 2 none 0 := ⟨wd_6_2, wd_1_5, by decide +kernel⟩
theorem sp_128 : (Int16.ofInt (128)).toInt32 = (128 : Int32) := by decide
theorem sp_240 : (Int16.ofInt (240)).toInt32 = (240 : Int32) := by decide
theorem sp_320 : (Int16.ofInt (320)).toInt32 = (320 : Int32) := by decide
theorem sp_400 : (Int16.ofInt (400)).toInt32 = (400 : Int32) := by decide
def G0 (g : GG) (h0 : Nat) (w1 : va_W) : Prop := w1 = [(h0, .inr (0, [.int (-1 : Int32), .int (-1 : Int32), .int (-1 : Int32)]))]
set_option maxHeartbeats 4000000 in
set_option maxRecDepth 100000 in
theorem kX0_init (l : Launch) (g : GG) (h0 : Nat) : KN l yX0_init cX0_init 1 1 12 0 0 g [.ref h0] [(h0, .inr (0, [.int 0, .int 0, .int 0]))] (G0 g h0) := by
  refine n_start (by decide +kernel) (Nat.le_of_ble_eq_true rfl) ?_
  intro p e s m args below meth c ls A Z hKA hr hlk hin hP hD hA hAe hl
  have hK := hKA.1
  have hx := Z.1
  have hb := Z.2.1
  have hml := Z.2.2.1
  have hown := Z.2.2.2.1
  have hts := Z.2.2.2.2
  have hS : va_S A s.heap s.heap [] := va_S.rf
  have hl : lv_has ls 1 [(0, .ref h0)] := hl
  refine lv_aload_n hx hb dX0_init_0 rfl (lv_at hl 0 rfl) ?_
  refine W.objInit hx hb hown (hts _ wd_5_20) (hts _ wd_1_10) (hts _ wd_1_11) rfl (by rw [hml]; exact hl.1) rfl dX0_init_1 (Nat.le_of_ble_eq_true rfl) (Nat.le_of_ble_eq_true rfl) ?_
  refine W.eq (g2 := F0 m 4 ls []) rfl ?_
  refine lv_aload_n hx hb dX0_init_4 rfl (lv_at hl 0 rfl) ?_
  refine lv_iconst (v := (-1 : Int32)) hx hb dX0_init_5 ic_m1 ?_
  refine va_put (D := g.2.2.1) (ci := 0) (v := .int (-1 : Int32)) (ty := .int) (C := RX0) (T := TX0) (N := 3) hx hb hts inlX0 tyX0 tyX0_ok nmX0 hown hK.1 hP hD hS 0 rfl rfl 0 (by decide) (hts _ wd_5_21) (fun _ h9 => h9) rfl rfl rfl rfl (Nat.le_of_ble_eq_true rfl) dX0_init_6 (fun H locs hP hD hS => ?_)
  have hP : va_P g.2.2.1 vwCl [(h0, .inr (0, [.int (-1 : Int32), .int 0, .int 0]))] H := hP
  have hD : va_D A [(h0, .inr (0, [.int (-1 : Int32), .int 0, .int 0]))] := hD
  refine lv_aload_n hx hb dX0_init_9 rfl (lv_at hl 0 rfl) ?_
  refine lv_iconst (v := (-1 : Int32)) hx hb dX0_init_10 ic_m1 ?_
  refine va_put (D := g.2.2.1) (ci := 0) (v := .int (-1 : Int32)) (ty := .int) (C := RX0) (T := TX0) (N := 3) hx hb hts inlX0 tyX0 tyX0_ok nmX0 hown hK.1 hP hD hS 0 rfl rfl 1 (by decide) (hts _ wd_5_22) (fun _ h9 => h9) rfl rfl rfl rfl (Nat.le_of_ble_eq_true rfl) dX0_init_11 (fun H locs hP hD hS => ?_)
  have hP : va_P g.2.2.1 vwCl [(h0, .inr (0, [.int (-1 : Int32), .int (-1 : Int32), .int 0]))] H := hP
  have hD : va_D A [(h0, .inr (0, [.int (-1 : Int32), .int (-1 : Int32), .int 0]))] := hD
  refine lv_aload_n hx hb dX0_init_14 rfl (lv_at hl 0 rfl) ?_
  refine lv_iconst (v := (-1 : Int32)) hx hb dX0_init_15 ic_m1 ?_
  refine va_put (D := g.2.2.1) (ci := 0) (v := .int (-1 : Int32)) (ty := .int) (C := RX0) (T := TX0) (N := 3) hx hb hts inlX0 tyX0 tyX0_ok nmX0 hown hK.1 hP hD hS 0 rfl rfl 2 (by decide) (hts _ wd_5_23) (fun _ h9 => h9) rfl rfl rfl rfl (Nat.le_of_ble_eq_true rfl) dX0_init_16 (fun H locs hP hD hS => ?_)
  have hP : va_P g.2.2.1 vwCl [(h0, .inr (0, [.int (-1 : Int32), .int (-1 : Int32), .int (-1 : Int32)]))] H := hP
  have hD : va_D A [(h0, .inr (0, [.int (-1 : Int32), .int (-1 : Int32), .int (-1 : Int32)]))] := hD
  exact n_ret Z hr hlk hAe rfl hP hD hS dX0_init_19
def G1 (g : GG) (h0 : Nat) (w1 : va_W) : Prop := ∃ q1 : Nat, ∃ q2 : Nat, ∃ q3 : Nat, w1 = [(h0, .inr (1, [.ref q1, .ref q2, .ref q3, .int 0])), (q1, .inl (g.2.1 0, 8, .inl (fun _ => 0))), (q2, .inl (g.2.1 0, 8, .inl (fun _ => 0))), (q3, .inl (g.2.1 0, 8, .inl (fun _ => 0)))]
set_option maxHeartbeats 4000000 in
set_option maxRecDepth 100000 in
theorem kX1_init (l : Launch) (g : GG) (h0 : Nat) : KN l yX1_init cX1_init 1 1 12 3 24 g [.ref h0] [(h0, .inr (1, [.null, .null, .null, .int 0]))] (G1 g h0) := by
  refine n_start (by decide +kernel) (Nat.le_of_ble_eq_true rfl) ?_
  intro p e s m args below meth c ls A Z hKA hr hlk hin hP hD hA hAe hl
  have hK := hKA.1
  have hx := Z.1
  have hb := Z.2.1
  have hml := Z.2.2.1
  have hown := Z.2.2.2.1
  have hts := Z.2.2.2.2
  have hS : va_S A s.heap s.heap [] := va_S.rf
  have hl : lv_has ls 1 [(0, .ref h0)] := hl
  refine lv_aload_n hx hb dX1_init_0 rfl (lv_at hl 0 rfl) ?_
  refine W.objInit hx hb hown (hts _ wd_4_19) (hts _ wd_1_10) (hts _ wd_1_11) rfl (by rw [hml]; exact hl.1) rfl dX1_init_1 (Nat.le_of_ble_eq_true rfl) (Nat.le_of_ble_eq_true rfl) ?_
  refine W.eq (g2 := F0 m 4 ls []) rfl ?_
  refine lv_aload_n hx hb dX1_init_4 rfl (lv_at hl 0 rfl) ?_
  refine lv_bipush (v := (8 : Int32)) hx hb dX1_init_5 bp_8 ?_
  refine n_newa Z hK hP hD hS hA 8 (by decide) (by decide) (by decide) (Nat.le_of_ble_eq_true rfl) (Nat.le_of_ble_eq_true rfl) wd_3_1 dX1_init_7 (fun q1 H hP hD hS => ?_)
  have hP : va_P g.2.2.1 vwCl [(h0, .inr (1, [.null, .null, .null, .int 0])), (q1, .inl (g.2.1 0, 8, .inl (fun _ => 0)))] H := hP
  have hD : va_D A [(h0, .inr (1, [.null, .null, .null, .int 0])), (q1, .inl (g.2.1 0, 8, .inl (fun _ => 0)))] := hD
  refine W.widen (k := 1) (n := 8) (Nat.le_of_ble_eq_true rfl) (Nat.le_of_ble_eq_true rfl) ?_
  refine va_putF (D := g.2.2.1) (ci := 1) (v := .ref q1) (ty := .array .int) (C := RX1) (T := TX1) (N := 4) hx hb hts inlX1 tyX1 tyX1_ok nmX1 hown hK.1 hP hD hS 0 rfl rfl 0 (by decide) (hts _ wd_4_20) (fun _ h9 => h9) rfl hin rfl rfl rfl rfl (Nat.le_of_ble_eq_true rfl) dX1_init_9 (fun H locs hP hD hS => ?_)
  have hP : va_P g.2.2.1 vwCl [(h0, .inr (1, [.ref q1, .null, .null, .int 0])), (q1, .inl (g.2.1 0, 8, .inl (fun _ => 0)))] H := hP
  have hD : va_D A [(h0, .inr (1, [.ref q1, .null, .null, .int 0])), (q1, .inl (g.2.1 0, 8, .inl (fun _ => 0)))] := hD
  refine lv_aload_n hx hb dX1_init_12 rfl (lv_at hl 0 rfl) ?_
  refine lv_bipush (v := (8 : Int32)) hx hb dX1_init_13 bp_8 ?_
  refine n_newa Z hK hP hD hS hA 8 (by decide) (by decide) (by decide) (Nat.le_of_ble_eq_true rfl) (Nat.le_of_ble_eq_true rfl) wd_3_1 dX1_init_15 (fun q2 H hP hD hS => ?_)
  have hP : va_P g.2.2.1 vwCl [(h0, .inr (1, [.ref q1, .null, .null, .int 0])), (q1, .inl (g.2.1 0, 8, .inl (fun _ => 0))), (q2, .inl (g.2.1 0, 8, .inl (fun _ => 0)))] H := hP
  have hD : va_D A [(h0, .inr (1, [.ref q1, .null, .null, .int 0])), (q1, .inl (g.2.1 0, 8, .inl (fun _ => 0))), (q2, .inl (g.2.1 0, 8, .inl (fun _ => 0)))] := hD
  refine W.widen (k := 2) (n := 16) (Nat.le_of_ble_eq_true rfl) (Nat.le_of_ble_eq_true rfl) ?_
  refine va_putF (D := g.2.2.1) (ci := 1) (v := .ref q2) (ty := .array .int) (C := RX1) (T := TX1) (N := 4) hx hb hts inlX1 tyX1 tyX1_ok nmX1 hown hK.1 hP hD hS 0 rfl rfl 1 (by decide) (hts _ wd_4_21) (fun _ h9 => h9) rfl hin rfl rfl rfl rfl (Nat.le_of_ble_eq_true rfl) dX1_init_17 (fun H locs hP hD hS => ?_)
  have hP : va_P g.2.2.1 vwCl [(h0, .inr (1, [.ref q1, .ref q2, .null, .int 0])), (q1, .inl (g.2.1 0, 8, .inl (fun _ => 0))), (q2, .inl (g.2.1 0, 8, .inl (fun _ => 0)))] H := hP
  have hD : va_D A [(h0, .inr (1, [.ref q1, .ref q2, .null, .int 0])), (q1, .inl (g.2.1 0, 8, .inl (fun _ => 0))), (q2, .inl (g.2.1 0, 8, .inl (fun _ => 0)))] := hD
  refine lv_aload_n hx hb dX1_init_20 rfl (lv_at hl 0 rfl) ?_
  refine lv_bipush (v := (8 : Int32)) hx hb dX1_init_21 bp_8 ?_
  refine n_newa Z hK hP hD hS hA 8 (by decide) (by decide) (by decide) (Nat.le_of_ble_eq_true rfl) (Nat.le_of_ble_eq_true rfl) wd_3_1 dX1_init_23 (fun q3 H hP hD hS => ?_)
  have hP : va_P g.2.2.1 vwCl [(h0, .inr (1, [.ref q1, .ref q2, .null, .int 0])), (q1, .inl (g.2.1 0, 8, .inl (fun _ => 0))), (q2, .inl (g.2.1 0, 8, .inl (fun _ => 0))), (q3, .inl (g.2.1 0, 8, .inl (fun _ => 0)))] H := hP
  have hD : va_D A [(h0, .inr (1, [.ref q1, .ref q2, .null, .int 0])), (q1, .inl (g.2.1 0, 8, .inl (fun _ => 0))), (q2, .inl (g.2.1 0, 8, .inl (fun _ => 0))), (q3, .inl (g.2.1 0, 8, .inl (fun _ => 0)))] := hD
  refine W.widen (k := 3) (n := 24) (Nat.le_of_ble_eq_true rfl) (Nat.le_of_ble_eq_true rfl) ?_
  refine va_putF (D := g.2.2.1) (ci := 1) (v := .ref q3) (ty := .array .int) (C := RX1) (T := TX1) (N := 4) hx hb hts inlX1 tyX1 tyX1_ok nmX1 hown hK.1 hP hD hS 0 rfl rfl 2 (by decide) (hts _ wd_4_22) (fun _ h9 => h9) rfl hin rfl rfl rfl rfl (Nat.le_of_ble_eq_true rfl) dX1_init_25 (fun H locs hP hD hS => ?_)
  have hP : va_P g.2.2.1 vwCl [(h0, .inr (1, [.ref q1, .ref q2, .ref q3, .int 0])), (q1, .inl (g.2.1 0, 8, .inl (fun _ => 0))), (q2, .inl (g.2.1 0, 8, .inl (fun _ => 0))), (q3, .inl (g.2.1 0, 8, .inl (fun _ => 0)))] H := hP
  have hD : va_D A [(h0, .inr (1, [.ref q1, .ref q2, .ref q3, .int 0])), (q1, .inl (g.2.1 0, 8, .inl (fun _ => 0))), (q2, .inl (g.2.1 0, 8, .inl (fun _ => 0))), (q3, .inl (g.2.1 0, 8, .inl (fun _ => 0)))] := hD
  exact n_ret Z hr hlk hAe ⟨q1, q2, q3, rfl⟩ hP hD hS dX1_init_28
def G2 (g : GG) (h0 : Nat) (w1 : va_W) : Prop := ∃ q1 : Nat, ∃ q2 : Nat, ∃ q3 : Nat, w1 = [(h0, .inr (2, [.ref q1, .ref q2, .ref q3, .int 0])), (q1, .inl (g.2.1 0, 8, .inl (fun _ => 0))), (q2, .inl (g.2.1 0, 8, .inl (fun _ => 0))), (q3, .inl (g.2.1 0, 8, .inl (fun _ => 0)))]
set_option maxHeartbeats 4000000 in
set_option maxRecDepth 100000 in
theorem kX2_init (l : Launch) (g : GG) (h0 : Nat) : KN l yX2_init cX2_init 1 1 12 3 24 g [.ref h0] [(h0, .inr (2, [.null, .null, .null, .int 0]))] (G2 g h0) := by
  refine n_start (by decide +kernel) (Nat.le_of_ble_eq_true rfl) ?_
  intro p e s m args below meth c ls A Z hKA hr hlk hin hP hD hA hAe hl
  have hK := hKA.1
  have hx := Z.1
  have hb := Z.2.1
  have hml := Z.2.2.1
  have hown := Z.2.2.2.1
  have hts := Z.2.2.2.2
  have hS : va_S A s.heap s.heap [] := va_S.rf
  have hl : lv_has ls 1 [(0, .ref h0)] := hl
  refine lv_aload_n hx hb dX2_init_0 rfl (lv_at hl 0 rfl) ?_
  refine W.objInit hx hb hown (hts _ wd_4_13) (hts _ wd_1_10) (hts _ wd_1_11) rfl (by rw [hml]; exact hl.1) rfl dX2_init_1 (Nat.le_of_ble_eq_true rfl) (Nat.le_of_ble_eq_true rfl) ?_
  refine W.eq (g2 := F0 m 4 ls []) rfl ?_
  refine lv_aload_n hx hb dX2_init_4 rfl (lv_at hl 0 rfl) ?_
  refine lv_bipush (v := (8 : Int32)) hx hb dX2_init_5 bp_8 ?_
  refine n_newa Z hK hP hD hS hA 8 (by decide) (by decide) (by decide) (Nat.le_of_ble_eq_true rfl) (Nat.le_of_ble_eq_true rfl) wd_3_1 dX2_init_7 (fun q1 H hP hD hS => ?_)
  have hP : va_P g.2.2.1 vwCl [(h0, .inr (2, [.null, .null, .null, .int 0])), (q1, .inl (g.2.1 0, 8, .inl (fun _ => 0)))] H := hP
  have hD : va_D A [(h0, .inr (2, [.null, .null, .null, .int 0])), (q1, .inl (g.2.1 0, 8, .inl (fun _ => 0)))] := hD
  refine W.widen (k := 1) (n := 8) (Nat.le_of_ble_eq_true rfl) (Nat.le_of_ble_eq_true rfl) ?_
  refine va_putF (D := g.2.2.1) (ci := 2) (v := .ref q1) (ty := .array .int) (C := RX2) (T := TX2) (N := 4) hx hb hts inlX2 tyX2 tyX2_ok nmX2 hown hK.1 hP hD hS 0 rfl rfl 0 (by decide) (hts _ wd_4_14) (fun _ h9 => h9) rfl hin rfl rfl rfl rfl (Nat.le_of_ble_eq_true rfl) dX2_init_9 (fun H locs hP hD hS => ?_)
  have hP : va_P g.2.2.1 vwCl [(h0, .inr (2, [.ref q1, .null, .null, .int 0])), (q1, .inl (g.2.1 0, 8, .inl (fun _ => 0)))] H := hP
  have hD : va_D A [(h0, .inr (2, [.ref q1, .null, .null, .int 0])), (q1, .inl (g.2.1 0, 8, .inl (fun _ => 0)))] := hD
  refine lv_aload_n hx hb dX2_init_12 rfl (lv_at hl 0 rfl) ?_
  refine lv_bipush (v := (8 : Int32)) hx hb dX2_init_13 bp_8 ?_
  refine n_newa Z hK hP hD hS hA 8 (by decide) (by decide) (by decide) (Nat.le_of_ble_eq_true rfl) (Nat.le_of_ble_eq_true rfl) wd_3_1 dX2_init_15 (fun q2 H hP hD hS => ?_)
  have hP : va_P g.2.2.1 vwCl [(h0, .inr (2, [.ref q1, .null, .null, .int 0])), (q1, .inl (g.2.1 0, 8, .inl (fun _ => 0))), (q2, .inl (g.2.1 0, 8, .inl (fun _ => 0)))] H := hP
  have hD : va_D A [(h0, .inr (2, [.ref q1, .null, .null, .int 0])), (q1, .inl (g.2.1 0, 8, .inl (fun _ => 0))), (q2, .inl (g.2.1 0, 8, .inl (fun _ => 0)))] := hD
  refine W.widen (k := 2) (n := 16) (Nat.le_of_ble_eq_true rfl) (Nat.le_of_ble_eq_true rfl) ?_
  refine va_putF (D := g.2.2.1) (ci := 2) (v := .ref q2) (ty := .array .int) (C := RX2) (T := TX2) (N := 4) hx hb hts inlX2 tyX2 tyX2_ok nmX2 hown hK.1 hP hD hS 0 rfl rfl 1 (by decide) (hts _ wd_4_15) (fun _ h9 => h9) rfl hin rfl rfl rfl rfl (Nat.le_of_ble_eq_true rfl) dX2_init_17 (fun H locs hP hD hS => ?_)
  have hP : va_P g.2.2.1 vwCl [(h0, .inr (2, [.ref q1, .ref q2, .null, .int 0])), (q1, .inl (g.2.1 0, 8, .inl (fun _ => 0))), (q2, .inl (g.2.1 0, 8, .inl (fun _ => 0)))] H := hP
  have hD : va_D A [(h0, .inr (2, [.ref q1, .ref q2, .null, .int 0])), (q1, .inl (g.2.1 0, 8, .inl (fun _ => 0))), (q2, .inl (g.2.1 0, 8, .inl (fun _ => 0)))] := hD
  refine lv_aload_n hx hb dX2_init_20 rfl (lv_at hl 0 rfl) ?_
  refine lv_bipush (v := (8 : Int32)) hx hb dX2_init_21 bp_8 ?_
  refine n_newa Z hK hP hD hS hA 8 (by decide) (by decide) (by decide) (Nat.le_of_ble_eq_true rfl) (Nat.le_of_ble_eq_true rfl) wd_3_1 dX2_init_23 (fun q3 H hP hD hS => ?_)
  have hP : va_P g.2.2.1 vwCl [(h0, .inr (2, [.ref q1, .ref q2, .null, .int 0])), (q1, .inl (g.2.1 0, 8, .inl (fun _ => 0))), (q2, .inl (g.2.1 0, 8, .inl (fun _ => 0))), (q3, .inl (g.2.1 0, 8, .inl (fun _ => 0)))] H := hP
  have hD : va_D A [(h0, .inr (2, [.ref q1, .ref q2, .null, .int 0])), (q1, .inl (g.2.1 0, 8, .inl (fun _ => 0))), (q2, .inl (g.2.1 0, 8, .inl (fun _ => 0))), (q3, .inl (g.2.1 0, 8, .inl (fun _ => 0)))] := hD
  refine W.widen (k := 3) (n := 24) (Nat.le_of_ble_eq_true rfl) (Nat.le_of_ble_eq_true rfl) ?_
  refine va_putF (D := g.2.2.1) (ci := 2) (v := .ref q3) (ty := .array .int) (C := RX2) (T := TX2) (N := 4) hx hb hts inlX2 tyX2 tyX2_ok nmX2 hown hK.1 hP hD hS 0 rfl rfl 2 (by decide) (hts _ wd_4_16) (fun _ h9 => h9) rfl hin rfl rfl rfl rfl (Nat.le_of_ble_eq_true rfl) dX2_init_25 (fun H locs hP hD hS => ?_)
  have hP : va_P g.2.2.1 vwCl [(h0, .inr (2, [.ref q1, .ref q2, .ref q3, .int 0])), (q1, .inl (g.2.1 0, 8, .inl (fun _ => 0))), (q2, .inl (g.2.1 0, 8, .inl (fun _ => 0))), (q3, .inl (g.2.1 0, 8, .inl (fun _ => 0)))] H := hP
  have hD : va_D A [(h0, .inr (2, [.ref q1, .ref q2, .ref q3, .int 0])), (q1, .inl (g.2.1 0, 8, .inl (fun _ => 0))), (q2, .inl (g.2.1 0, 8, .inl (fun _ => 0))), (q3, .inl (g.2.1 0, 8, .inl (fun _ => 0)))] := hD
  exact n_ret Z hr hlk hAe ⟨q1, q2, q3, rfl⟩ hP hD hS dX2_init_28
def G3 (g : GG) (h0 : Nat) (w1 : va_W) : Prop := ∃ q1 : Nat, ∃ q2 : Nat, ∃ q3 : Nat, w1 = [(h0, .inr (3, [.ref q1, .ref q2, .ref q3])), (q1, .inl (g.2.1 0, 40, .inl (fun _ => 0))), (q2, .inl (g.2.1 0, 40, .inl (fun _ => 0))), (q3, .inl (g.2.1 1, 40, .inl (fun _ => 0)))]
set_option maxHeartbeats 4000000 in
set_option maxRecDepth 100000 in
theorem kX3_init (l : Launch) (g : GG) (h0 : Nat) : KN l yX3_init cX3_init 1 1 12 3 120 g [.ref h0] [(h0, .inr (3, [.null, .null, .null]))] (G3 g h0) := by
  refine n_start (by decide +kernel) (Nat.le_of_ble_eq_true rfl) ?_
  intro p e s m args below meth c ls A Z hKA hr hlk hin hP hD hA hAe hl
  have hK := hKA.1
  have hx := Z.1
  have hb := Z.2.1
  have hml := Z.2.2.1
  have hown := Z.2.2.2.1
  have hts := Z.2.2.2.2
  have hS : va_S A s.heap s.heap [] := va_S.rf
  have hl : lv_has ls 1 [(0, .ref h0)] := hl
  refine lv_aload_n hx hb dX3_init_0 rfl (lv_at hl 0 rfl) ?_
  refine W.objInit hx hb hown (hts _ wd_5_6) (hts _ wd_1_10) (hts _ wd_1_11) rfl (by rw [hml]; exact hl.1) rfl dX3_init_1 (Nat.le_of_ble_eq_true rfl) (Nat.le_of_ble_eq_true rfl) ?_
  refine W.eq (g2 := F0 m 4 ls []) rfl ?_
  refine lv_aload_n hx hb dX3_init_4 rfl (lv_at hl 0 rfl) ?_
  refine lv_bipush (v := (40 : Int32)) hx hb dX3_init_5 bp_40 ?_
  refine n_newa Z hK hP hD hS hA 40 (by decide) (by decide) (by decide) (Nat.le_of_ble_eq_true rfl) (Nat.le_of_ble_eq_true rfl) wd_3_1 dX3_init_7 (fun q1 H hP hD hS => ?_)
  have hP : va_P g.2.2.1 vwCl [(h0, .inr (3, [.null, .null, .null])), (q1, .inl (g.2.1 0, 40, .inl (fun _ => 0)))] H := hP
  have hD : va_D A [(h0, .inr (3, [.null, .null, .null])), (q1, .inl (g.2.1 0, 40, .inl (fun _ => 0)))] := hD
  refine W.widen (k := 1) (n := 40) (Nat.le_of_ble_eq_true rfl) (Nat.le_of_ble_eq_true rfl) ?_
  refine va_putF (D := g.2.2.1) (ci := 3) (v := .ref q1) (ty := .array .int) (C := RX3) (T := TX3) (N := 3) hx hb hts inlX3 tyX3 tyX3_ok nmX3 hown hK.1 hP hD hS 0 rfl rfl 0 (by decide) (hts _ wd_5_7) (fun _ h9 => h9) rfl hin rfl rfl rfl rfl (Nat.le_of_ble_eq_true rfl) dX3_init_9 (fun H locs hP hD hS => ?_)
  have hP : va_P g.2.2.1 vwCl [(h0, .inr (3, [.ref q1, .null, .null])), (q1, .inl (g.2.1 0, 40, .inl (fun _ => 0)))] H := hP
  have hD : va_D A [(h0, .inr (3, [.ref q1, .null, .null])), (q1, .inl (g.2.1 0, 40, .inl (fun _ => 0)))] := hD
  refine lv_aload_n hx hb dX3_init_12 rfl (lv_at hl 0 rfl) ?_
  refine lv_bipush (v := (40 : Int32)) hx hb dX3_init_13 bp_40 ?_
  refine n_newa Z hK hP hD hS hA 40 (by decide) (by decide) (by decide) (Nat.le_of_ble_eq_true rfl) (Nat.le_of_ble_eq_true rfl) wd_3_1 dX3_init_15 (fun q2 H hP hD hS => ?_)
  have hP : va_P g.2.2.1 vwCl [(h0, .inr (3, [.ref q1, .null, .null])), (q1, .inl (g.2.1 0, 40, .inl (fun _ => 0))), (q2, .inl (g.2.1 0, 40, .inl (fun _ => 0)))] H := hP
  have hD : va_D A [(h0, .inr (3, [.ref q1, .null, .null])), (q1, .inl (g.2.1 0, 40, .inl (fun _ => 0))), (q2, .inl (g.2.1 0, 40, .inl (fun _ => 0)))] := hD
  refine W.widen (k := 2) (n := 80) (Nat.le_of_ble_eq_true rfl) (Nat.le_of_ble_eq_true rfl) ?_
  refine va_putF (D := g.2.2.1) (ci := 3) (v := .ref q2) (ty := .array .int) (C := RX3) (T := TX3) (N := 3) hx hb hts inlX3 tyX3 tyX3_ok nmX3 hown hK.1 hP hD hS 0 rfl rfl 1 (by decide) (hts _ wd_5_8) (fun _ h9 => h9) rfl hin rfl rfl rfl rfl (Nat.le_of_ble_eq_true rfl) dX3_init_17 (fun H locs hP hD hS => ?_)
  have hP : va_P g.2.2.1 vwCl [(h0, .inr (3, [.ref q1, .ref q2, .null])), (q1, .inl (g.2.1 0, 40, .inl (fun _ => 0))), (q2, .inl (g.2.1 0, 40, .inl (fun _ => 0)))] H := hP
  have hD : va_D A [(h0, .inr (3, [.ref q1, .ref q2, .null])), (q1, .inl (g.2.1 0, 40, .inl (fun _ => 0))), (q2, .inl (g.2.1 0, 40, .inl (fun _ => 0)))] := hD
  refine lv_aload_n hx hb dX3_init_20 rfl (lv_at hl 0 rfl) ?_
  refine lv_bipush (v := (40 : Int32)) hx hb dX3_init_21 bp_40 ?_
  refine n_newz Z hK hP hD hS hA 40 (by decide) (by decide) (by decide) (Nat.le_of_ble_eq_true rfl) (Nat.le_of_ble_eq_true rfl) wd_5_9 dX3_init_23 (fun q3 H hP hD hS => ?_)
  have hP : va_P g.2.2.1 vwCl [(h0, .inr (3, [.ref q1, .ref q2, .null])), (q1, .inl (g.2.1 0, 40, .inl (fun _ => 0))), (q2, .inl (g.2.1 0, 40, .inl (fun _ => 0))), (q3, .inl (g.2.1 1, 40, .inl (fun _ => 0)))] H := hP
  have hD : va_D A [(h0, .inr (3, [.ref q1, .ref q2, .null])), (q1, .inl (g.2.1 0, 40, .inl (fun _ => 0))), (q2, .inl (g.2.1 0, 40, .inl (fun _ => 0))), (q3, .inl (g.2.1 1, 40, .inl (fun _ => 0)))] := hD
  refine W.widen (k := 3) (n := 120) (Nat.le_of_ble_eq_true rfl) (Nat.le_of_ble_eq_true rfl) ?_
  refine va_putF (D := g.2.2.1) (ci := 3) (v := .ref q3) (ty := .array .boolean) (C := RX3) (T := TX3) (N := 3) hx hb hts inlX3 tyX3 tyX3_ok nmX3 hown hK.1 hP hD hS 0 rfl rfl 2 (by decide) (hts _ wd_5_10) (fun _ h9 => h9) rfl hin rfl rfl rfl rfl (Nat.le_of_ble_eq_true rfl) dX3_init_25 (fun H locs hP hD hS => ?_)
  have hP : va_P g.2.2.1 vwCl [(h0, .inr (3, [.ref q1, .ref q2, .ref q3])), (q1, .inl (g.2.1 0, 40, .inl (fun _ => 0))), (q2, .inl (g.2.1 0, 40, .inl (fun _ => 0))), (q3, .inl (g.2.1 1, 40, .inl (fun _ => 0)))] H := hP
  have hD : va_D A [(h0, .inr (3, [.ref q1, .ref q2, .ref q3])), (q1, .inl (g.2.1 0, 40, .inl (fun _ => 0))), (q2, .inl (g.2.1 0, 40, .inl (fun _ => 0))), (q3, .inl (g.2.1 1, 40, .inl (fun _ => 0)))] := hD
  exact n_ret Z hr hlk hAe ⟨q1, q2, q3, rfl⟩ hP hD hS dX3_init_28
def G4 (g : GG) (h0 : Nat) (w1 : va_W) : Prop := ∃ q1 : Nat, ∃ q2 : Nat, ∃ q3 : Nat, ∃ q4 : Nat, w1 = [(h0, .inr (4, [.ref q1, .ref q2, .ref q3, .ref q4, .int 0, .int 0, .int 0, .int 0, .int 0, .int 0])), (q1, .inl (g.2.1 0, 40, .inl (fun _ => 0))), (q2, .inl (g.2.1 0, 40, .inl (fun _ => 0))), (q3, .inl (g.2.1 0, 40, .inl (fun _ => 0))), (q4, .inl (g.2.1 0, 40, .inl (fun _ => 0)))]
set_option maxHeartbeats 4000000 in
set_option maxRecDepth 100000 in
theorem kX4_init (l : Launch) (g : GG) (h0 : Nat) : KN l yX4_init cX4_init 1 1 12 4 160 g [.ref h0] [(h0, .inr (4, [.null, .null, .null, .null, .int 0, .int 0, .int 0, .int 0, .int 0, .int 0]))] (G4 g h0) := by
  refine n_start (by decide +kernel) (Nat.le_of_ble_eq_true rfl) ?_
  intro p e s m args below meth c ls A Z hKA hr hlk hin hP hD hA hAe hl
  have hK := hKA.1
  have hx := Z.1
  have hb := Z.2.1
  have hml := Z.2.2.1
  have hown := Z.2.2.2.1
  have hts := Z.2.2.2.2
  have hS : va_S A s.heap s.heap [] := va_S.rf
  have hl : lv_has ls 1 [(0, .ref h0)] := hl
  refine lv_aload_n hx hb dX4_init_0 rfl (lv_at hl 0 rfl) ?_
  refine W.objInit hx hb hown (hts _ wd_5_13) (hts _ wd_1_10) (hts _ wd_1_11) rfl (by rw [hml]; exact hl.1) rfl dX4_init_1 (Nat.le_of_ble_eq_true rfl) (Nat.le_of_ble_eq_true rfl) ?_
  refine W.eq (g2 := F0 m 4 ls []) rfl ?_
  refine lv_aload_n hx hb dX4_init_4 rfl (lv_at hl 0 rfl) ?_
  refine lv_bipush (v := (40 : Int32)) hx hb dX4_init_5 bp_40 ?_
  refine n_newa Z hK hP hD hS hA 40 (by decide) (by decide) (by decide) (Nat.le_of_ble_eq_true rfl) (Nat.le_of_ble_eq_true rfl) wd_3_1 dX4_init_7 (fun q1 H hP hD hS => ?_)
  have hP : va_P g.2.2.1 vwCl [(h0, .inr (4, [.null, .null, .null, .null, .int 0, .int 0, .int 0, .int 0, .int 0, .int 0])), (q1, .inl (g.2.1 0, 40, .inl (fun _ => 0)))] H := hP
  have hD : va_D A [(h0, .inr (4, [.null, .null, .null, .null, .int 0, .int 0, .int 0, .int 0, .int 0, .int 0])), (q1, .inl (g.2.1 0, 40, .inl (fun _ => 0)))] := hD
  refine W.widen (k := 1) (n := 40) (Nat.le_of_ble_eq_true rfl) (Nat.le_of_ble_eq_true rfl) ?_
  refine va_putF (D := g.2.2.1) (ci := 4) (v := .ref q1) (ty := .array .int) (C := RX4) (T := TX4) (N := 10) hx hb hts inlX4 tyX4 tyX4_ok nmX4 hown hK.1 hP hD hS 0 rfl rfl 0 (by decide) (hts _ wd_5_14) (fun _ h9 => h9) rfl hin rfl rfl rfl rfl (Nat.le_of_ble_eq_true rfl) dX4_init_9 (fun H locs hP hD hS => ?_)
  have hP : va_P g.2.2.1 vwCl [(h0, .inr (4, [.ref q1, .null, .null, .null, .int 0, .int 0, .int 0, .int 0, .int 0, .int 0])), (q1, .inl (g.2.1 0, 40, .inl (fun _ => 0)))] H := hP
  have hD : va_D A [(h0, .inr (4, [.ref q1, .null, .null, .null, .int 0, .int 0, .int 0, .int 0, .int 0, .int 0])), (q1, .inl (g.2.1 0, 40, .inl (fun _ => 0)))] := hD
  refine lv_aload_n hx hb dX4_init_12 rfl (lv_at hl 0 rfl) ?_
  refine lv_bipush (v := (40 : Int32)) hx hb dX4_init_13 bp_40 ?_
  refine n_newa Z hK hP hD hS hA 40 (by decide) (by decide) (by decide) (Nat.le_of_ble_eq_true rfl) (Nat.le_of_ble_eq_true rfl) wd_3_1 dX4_init_15 (fun q2 H hP hD hS => ?_)
  have hP : va_P g.2.2.1 vwCl [(h0, .inr (4, [.ref q1, .null, .null, .null, .int 0, .int 0, .int 0, .int 0, .int 0, .int 0])), (q1, .inl (g.2.1 0, 40, .inl (fun _ => 0))), (q2, .inl (g.2.1 0, 40, .inl (fun _ => 0)))] H := hP
  have hD : va_D A [(h0, .inr (4, [.ref q1, .null, .null, .null, .int 0, .int 0, .int 0, .int 0, .int 0, .int 0])), (q1, .inl (g.2.1 0, 40, .inl (fun _ => 0))), (q2, .inl (g.2.1 0, 40, .inl (fun _ => 0)))] := hD
  refine W.widen (k := 2) (n := 80) (Nat.le_of_ble_eq_true rfl) (Nat.le_of_ble_eq_true rfl) ?_
  refine va_putF (D := g.2.2.1) (ci := 4) (v := .ref q2) (ty := .array .int) (C := RX4) (T := TX4) (N := 10) hx hb hts inlX4 tyX4 tyX4_ok nmX4 hown hK.1 hP hD hS 0 rfl rfl 1 (by decide) (hts _ wd_5_15) (fun _ h9 => h9) rfl hin rfl rfl rfl rfl (Nat.le_of_ble_eq_true rfl) dX4_init_17 (fun H locs hP hD hS => ?_)
  have hP : va_P g.2.2.1 vwCl [(h0, .inr (4, [.ref q1, .ref q2, .null, .null, .int 0, .int 0, .int 0, .int 0, .int 0, .int 0])), (q1, .inl (g.2.1 0, 40, .inl (fun _ => 0))), (q2, .inl (g.2.1 0, 40, .inl (fun _ => 0)))] H := hP
  have hD : va_D A [(h0, .inr (4, [.ref q1, .ref q2, .null, .null, .int 0, .int 0, .int 0, .int 0, .int 0, .int 0])), (q1, .inl (g.2.1 0, 40, .inl (fun _ => 0))), (q2, .inl (g.2.1 0, 40, .inl (fun _ => 0)))] := hD
  refine lv_aload_n hx hb dX4_init_20 rfl (lv_at hl 0 rfl) ?_
  refine lv_bipush (v := (40 : Int32)) hx hb dX4_init_21 bp_40 ?_
  refine n_newa Z hK hP hD hS hA 40 (by decide) (by decide) (by decide) (Nat.le_of_ble_eq_true rfl) (Nat.le_of_ble_eq_true rfl) wd_3_1 dX4_init_23 (fun q3 H hP hD hS => ?_)
  have hP : va_P g.2.2.1 vwCl [(h0, .inr (4, [.ref q1, .ref q2, .null, .null, .int 0, .int 0, .int 0, .int 0, .int 0, .int 0])), (q1, .inl (g.2.1 0, 40, .inl (fun _ => 0))), (q2, .inl (g.2.1 0, 40, .inl (fun _ => 0))), (q3, .inl (g.2.1 0, 40, .inl (fun _ => 0)))] H := hP
  have hD : va_D A [(h0, .inr (4, [.ref q1, .ref q2, .null, .null, .int 0, .int 0, .int 0, .int 0, .int 0, .int 0])), (q1, .inl (g.2.1 0, 40, .inl (fun _ => 0))), (q2, .inl (g.2.1 0, 40, .inl (fun _ => 0))), (q3, .inl (g.2.1 0, 40, .inl (fun _ => 0)))] := hD
  refine W.widen (k := 3) (n := 120) (Nat.le_of_ble_eq_true rfl) (Nat.le_of_ble_eq_true rfl) ?_
  refine va_putF (D := g.2.2.1) (ci := 4) (v := .ref q3) (ty := .array .int) (C := RX4) (T := TX4) (N := 10) hx hb hts inlX4 tyX4 tyX4_ok nmX4 hown hK.1 hP hD hS 0 rfl rfl 2 (by decide) (hts _ wd_5_16) (fun _ h9 => h9) rfl hin rfl rfl rfl rfl (Nat.le_of_ble_eq_true rfl) dX4_init_25 (fun H locs hP hD hS => ?_)
  have hP : va_P g.2.2.1 vwCl [(h0, .inr (4, [.ref q1, .ref q2, .ref q3, .null, .int 0, .int 0, .int 0, .int 0, .int 0, .int 0])), (q1, .inl (g.2.1 0, 40, .inl (fun _ => 0))), (q2, .inl (g.2.1 0, 40, .inl (fun _ => 0))), (q3, .inl (g.2.1 0, 40, .inl (fun _ => 0)))] H := hP
  have hD : va_D A [(h0, .inr (4, [.ref q1, .ref q2, .ref q3, .null, .int 0, .int 0, .int 0, .int 0, .int 0, .int 0])), (q1, .inl (g.2.1 0, 40, .inl (fun _ => 0))), (q2, .inl (g.2.1 0, 40, .inl (fun _ => 0))), (q3, .inl (g.2.1 0, 40, .inl (fun _ => 0)))] := hD
  refine lv_aload_n hx hb dX4_init_28 rfl (lv_at hl 0 rfl) ?_
  refine lv_bipush (v := (40 : Int32)) hx hb dX4_init_29 bp_40 ?_
  refine n_newa Z hK hP hD hS hA 40 (by decide) (by decide) (by decide) (Nat.le_of_ble_eq_true rfl) (Nat.le_of_ble_eq_true rfl) wd_3_1 dX4_init_31 (fun q4 H hP hD hS => ?_)
  have hP : va_P g.2.2.1 vwCl [(h0, .inr (4, [.ref q1, .ref q2, .ref q3, .null, .int 0, .int 0, .int 0, .int 0, .int 0, .int 0])), (q1, .inl (g.2.1 0, 40, .inl (fun _ => 0))), (q2, .inl (g.2.1 0, 40, .inl (fun _ => 0))), (q3, .inl (g.2.1 0, 40, .inl (fun _ => 0))), (q4, .inl (g.2.1 0, 40, .inl (fun _ => 0)))] H := hP
  have hD : va_D A [(h0, .inr (4, [.ref q1, .ref q2, .ref q3, .null, .int 0, .int 0, .int 0, .int 0, .int 0, .int 0])), (q1, .inl (g.2.1 0, 40, .inl (fun _ => 0))), (q2, .inl (g.2.1 0, 40, .inl (fun _ => 0))), (q3, .inl (g.2.1 0, 40, .inl (fun _ => 0))), (q4, .inl (g.2.1 0, 40, .inl (fun _ => 0)))] := hD
  refine W.widen (k := 4) (n := 160) (Nat.le_of_ble_eq_true rfl) (Nat.le_of_ble_eq_true rfl) ?_
  refine va_putF (D := g.2.2.1) (ci := 4) (v := .ref q4) (ty := .array .int) (C := RX4) (T := TX4) (N := 10) hx hb hts inlX4 tyX4 tyX4_ok nmX4 hown hK.1 hP hD hS 0 rfl rfl 3 (by decide) (hts _ wd_5_17) (fun _ h9 => h9) rfl hin rfl rfl rfl rfl (Nat.le_of_ble_eq_true rfl) dX4_init_33 (fun H locs hP hD hS => ?_)
  have hP : va_P g.2.2.1 vwCl [(h0, .inr (4, [.ref q1, .ref q2, .ref q3, .ref q4, .int 0, .int 0, .int 0, .int 0, .int 0, .int 0])), (q1, .inl (g.2.1 0, 40, .inl (fun _ => 0))), (q2, .inl (g.2.1 0, 40, .inl (fun _ => 0))), (q3, .inl (g.2.1 0, 40, .inl (fun _ => 0))), (q4, .inl (g.2.1 0, 40, .inl (fun _ => 0)))] H := hP
  have hD : va_D A [(h0, .inr (4, [.ref q1, .ref q2, .ref q3, .ref q4, .int 0, .int 0, .int 0, .int 0, .int 0, .int 0])), (q1, .inl (g.2.1 0, 40, .inl (fun _ => 0))), (q2, .inl (g.2.1 0, 40, .inl (fun _ => 0))), (q3, .inl (g.2.1 0, 40, .inl (fun _ => 0))), (q4, .inl (g.2.1 0, 40, .inl (fun _ => 0)))] := hD
  exact n_ret Z hr hlk hAe ⟨q1, q2, q3, q4, rfl⟩ hP hD hS dX4_init_36
def G5 (g : GG) (h0 : Nat) (w1 : va_W) : Prop := ∃ q1 : Nat, ∃ q2 : Nat, ∃ q3 : Nat, ∃ q4 : Nat, ∃ q5 : Nat, w1 = [(h0, .inr (5, [.ref q1, .ref q2, .ref q3, .ref q4, .ref q5, .int 0])), (q1, .inl (g.2.1 0, 8, .inl (fun _ => 0))), (q2, .inl (g.2.1 0, 8, .inl (fun _ => 0))), (q3, .inl (g.2.1 0, 8, .inl (fun _ => 0))), (q4, .inl (g.2.1 0, 8, .inl (fun _ => 0))), (q5, .inl (g.2.1 0, 32, .inl (fun _ => 0)))]
set_option maxHeartbeats 4000000 in
set_option maxRecDepth 100000 in
theorem kX5_init (l : Launch) (g : GG) (h0 : Nat) : KN l yX5_init cX5_init 1 1 12 5 64 g [.ref h0] [(h0, .inr (5, [.null, .null, .null, .null, .null, .int 0]))] (G5 g h0) := by
  refine n_start (by decide +kernel) (Nat.le_of_ble_eq_true rfl) ?_
  intro p e s m args below meth c ls A Z hKA hr hlk hin hP hD hA hAe hl
  have hK := hKA.1
  have hx := Z.1
  have hb := Z.2.1
  have hml := Z.2.2.1
  have hown := Z.2.2.2.1
  have hts := Z.2.2.2.2
  have hS : va_S A s.heap s.heap [] := va_S.rf
  have hl : lv_has ls 1 [(0, .ref h0)] := hl
  refine lv_aload_n hx hb dX5_init_0 rfl (lv_at hl 0 rfl) ?_
  refine W.objInit hx hb hown (hts _ wd_4_5) (hts _ wd_1_10) (hts _ wd_1_11) rfl (by rw [hml]; exact hl.1) rfl dX5_init_1 (Nat.le_of_ble_eq_true rfl) (Nat.le_of_ble_eq_true rfl) ?_
  refine W.eq (g2 := F0 m 4 ls []) rfl ?_
  refine lv_aload_n hx hb dX5_init_4 rfl (lv_at hl 0 rfl) ?_
  refine lv_bipush (v := (8 : Int32)) hx hb dX5_init_5 bp_8 ?_
  refine n_newa Z hK hP hD hS hA 8 (by decide) (by decide) (by decide) (Nat.le_of_ble_eq_true rfl) (Nat.le_of_ble_eq_true rfl) wd_3_1 dX5_init_7 (fun q1 H hP hD hS => ?_)
  have hP : va_P g.2.2.1 vwCl [(h0, .inr (5, [.null, .null, .null, .null, .null, .int 0])), (q1, .inl (g.2.1 0, 8, .inl (fun _ => 0)))] H := hP
  have hD : va_D A [(h0, .inr (5, [.null, .null, .null, .null, .null, .int 0])), (q1, .inl (g.2.1 0, 8, .inl (fun _ => 0)))] := hD
  refine W.widen (k := 1) (n := 8) (Nat.le_of_ble_eq_true rfl) (Nat.le_of_ble_eq_true rfl) ?_
  refine va_putF (D := g.2.2.1) (ci := 5) (v := .ref q1) (ty := .array .int) (C := RX5) (T := TX5) (N := 6) hx hb hts inlX5 tyX5 tyX5_ok nmX5 hown hK.1 hP hD hS 0 rfl rfl 0 (by decide) (hts _ wd_4_6) (fun _ h9 => h9) rfl hin rfl rfl rfl rfl (Nat.le_of_ble_eq_true rfl) dX5_init_9 (fun H locs hP hD hS => ?_)
  have hP : va_P g.2.2.1 vwCl [(h0, .inr (5, [.ref q1, .null, .null, .null, .null, .int 0])), (q1, .inl (g.2.1 0, 8, .inl (fun _ => 0)))] H := hP
  have hD : va_D A [(h0, .inr (5, [.ref q1, .null, .null, .null, .null, .int 0])), (q1, .inl (g.2.1 0, 8, .inl (fun _ => 0)))] := hD
  refine lv_aload_n hx hb dX5_init_12 rfl (lv_at hl 0 rfl) ?_
  refine lv_bipush (v := (8 : Int32)) hx hb dX5_init_13 bp_8 ?_
  refine n_newa Z hK hP hD hS hA 8 (by decide) (by decide) (by decide) (Nat.le_of_ble_eq_true rfl) (Nat.le_of_ble_eq_true rfl) wd_3_1 dX5_init_15 (fun q2 H hP hD hS => ?_)
  have hP : va_P g.2.2.1 vwCl [(h0, .inr (5, [.ref q1, .null, .null, .null, .null, .int 0])), (q1, .inl (g.2.1 0, 8, .inl (fun _ => 0))), (q2, .inl (g.2.1 0, 8, .inl (fun _ => 0)))] H := hP
  have hD : va_D A [(h0, .inr (5, [.ref q1, .null, .null, .null, .null, .int 0])), (q1, .inl (g.2.1 0, 8, .inl (fun _ => 0))), (q2, .inl (g.2.1 0, 8, .inl (fun _ => 0)))] := hD
  refine W.widen (k := 2) (n := 16) (Nat.le_of_ble_eq_true rfl) (Nat.le_of_ble_eq_true rfl) ?_
  refine va_putF (D := g.2.2.1) (ci := 5) (v := .ref q2) (ty := .array .int) (C := RX5) (T := TX5) (N := 6) hx hb hts inlX5 tyX5 tyX5_ok nmX5 hown hK.1 hP hD hS 0 rfl rfl 1 (by decide) (hts _ wd_4_7) (fun _ h9 => h9) rfl hin rfl rfl rfl rfl (Nat.le_of_ble_eq_true rfl) dX5_init_17 (fun H locs hP hD hS => ?_)
  have hP : va_P g.2.2.1 vwCl [(h0, .inr (5, [.ref q1, .ref q2, .null, .null, .null, .int 0])), (q1, .inl (g.2.1 0, 8, .inl (fun _ => 0))), (q2, .inl (g.2.1 0, 8, .inl (fun _ => 0)))] H := hP
  have hD : va_D A [(h0, .inr (5, [.ref q1, .ref q2, .null, .null, .null, .int 0])), (q1, .inl (g.2.1 0, 8, .inl (fun _ => 0))), (q2, .inl (g.2.1 0, 8, .inl (fun _ => 0)))] := hD
  refine lv_aload_n hx hb dX5_init_20 rfl (lv_at hl 0 rfl) ?_
  refine lv_bipush (v := (8 : Int32)) hx hb dX5_init_21 bp_8 ?_
  refine n_newa Z hK hP hD hS hA 8 (by decide) (by decide) (by decide) (Nat.le_of_ble_eq_true rfl) (Nat.le_of_ble_eq_true rfl) wd_3_1 dX5_init_23 (fun q3 H hP hD hS => ?_)
  have hP : va_P g.2.2.1 vwCl [(h0, .inr (5, [.ref q1, .ref q2, .null, .null, .null, .int 0])), (q1, .inl (g.2.1 0, 8, .inl (fun _ => 0))), (q2, .inl (g.2.1 0, 8, .inl (fun _ => 0))), (q3, .inl (g.2.1 0, 8, .inl (fun _ => 0)))] H := hP
  have hD : va_D A [(h0, .inr (5, [.ref q1, .ref q2, .null, .null, .null, .int 0])), (q1, .inl (g.2.1 0, 8, .inl (fun _ => 0))), (q2, .inl (g.2.1 0, 8, .inl (fun _ => 0))), (q3, .inl (g.2.1 0, 8, .inl (fun _ => 0)))] := hD
  refine W.widen (k := 3) (n := 24) (Nat.le_of_ble_eq_true rfl) (Nat.le_of_ble_eq_true rfl) ?_
  refine va_putF (D := g.2.2.1) (ci := 5) (v := .ref q3) (ty := .array .int) (C := RX5) (T := TX5) (N := 6) hx hb hts inlX5 tyX5 tyX5_ok nmX5 hown hK.1 hP hD hS 0 rfl rfl 2 (by decide) (hts _ wd_4_8) (fun _ h9 => h9) rfl hin rfl rfl rfl rfl (Nat.le_of_ble_eq_true rfl) dX5_init_25 (fun H locs hP hD hS => ?_)
  have hP : va_P g.2.2.1 vwCl [(h0, .inr (5, [.ref q1, .ref q2, .ref q3, .null, .null, .int 0])), (q1, .inl (g.2.1 0, 8, .inl (fun _ => 0))), (q2, .inl (g.2.1 0, 8, .inl (fun _ => 0))), (q3, .inl (g.2.1 0, 8, .inl (fun _ => 0)))] H := hP
  have hD : va_D A [(h0, .inr (5, [.ref q1, .ref q2, .ref q3, .null, .null, .int 0])), (q1, .inl (g.2.1 0, 8, .inl (fun _ => 0))), (q2, .inl (g.2.1 0, 8, .inl (fun _ => 0))), (q3, .inl (g.2.1 0, 8, .inl (fun _ => 0)))] := hD
  refine lv_aload_n hx hb dX5_init_28 rfl (lv_at hl 0 rfl) ?_
  refine lv_bipush (v := (8 : Int32)) hx hb dX5_init_29 bp_8 ?_
  refine n_newa Z hK hP hD hS hA 8 (by decide) (by decide) (by decide) (Nat.le_of_ble_eq_true rfl) (Nat.le_of_ble_eq_true rfl) wd_3_1 dX5_init_31 (fun q4 H hP hD hS => ?_)
  have hP : va_P g.2.2.1 vwCl [(h0, .inr (5, [.ref q1, .ref q2, .ref q3, .null, .null, .int 0])), (q1, .inl (g.2.1 0, 8, .inl (fun _ => 0))), (q2, .inl (g.2.1 0, 8, .inl (fun _ => 0))), (q3, .inl (g.2.1 0, 8, .inl (fun _ => 0))), (q4, .inl (g.2.1 0, 8, .inl (fun _ => 0)))] H := hP
  have hD : va_D A [(h0, .inr (5, [.ref q1, .ref q2, .ref q3, .null, .null, .int 0])), (q1, .inl (g.2.1 0, 8, .inl (fun _ => 0))), (q2, .inl (g.2.1 0, 8, .inl (fun _ => 0))), (q3, .inl (g.2.1 0, 8, .inl (fun _ => 0))), (q4, .inl (g.2.1 0, 8, .inl (fun _ => 0)))] := hD
  refine W.widen (k := 4) (n := 32) (Nat.le_of_ble_eq_true rfl) (Nat.le_of_ble_eq_true rfl) ?_
  refine va_putF (D := g.2.2.1) (ci := 5) (v := .ref q4) (ty := .array .int) (C := RX5) (T := TX5) (N := 6) hx hb hts inlX5 tyX5 tyX5_ok nmX5 hown hK.1 hP hD hS 0 rfl rfl 3 (by decide) (hts _ wd_4_9) (fun _ h9 => h9) rfl hin rfl rfl rfl rfl (Nat.le_of_ble_eq_true rfl) dX5_init_33 (fun H locs hP hD hS => ?_)
  have hP : va_P g.2.2.1 vwCl [(h0, .inr (5, [.ref q1, .ref q2, .ref q3, .ref q4, .null, .int 0])), (q1, .inl (g.2.1 0, 8, .inl (fun _ => 0))), (q2, .inl (g.2.1 0, 8, .inl (fun _ => 0))), (q3, .inl (g.2.1 0, 8, .inl (fun _ => 0))), (q4, .inl (g.2.1 0, 8, .inl (fun _ => 0)))] H := hP
  have hD : va_D A [(h0, .inr (5, [.ref q1, .ref q2, .ref q3, .ref q4, .null, .int 0])), (q1, .inl (g.2.1 0, 8, .inl (fun _ => 0))), (q2, .inl (g.2.1 0, 8, .inl (fun _ => 0))), (q3, .inl (g.2.1 0, 8, .inl (fun _ => 0))), (q4, .inl (g.2.1 0, 8, .inl (fun _ => 0)))] := hD
  refine lv_aload_n hx hb dX5_init_36 rfl (lv_at hl 0 rfl) ?_
  refine lv_bipush (v := (32 : Int32)) hx hb dX5_init_37 bp_32 ?_
  refine n_newa Z hK hP hD hS hA 32 (by decide) (by decide) (by decide) (Nat.le_of_ble_eq_true rfl) (Nat.le_of_ble_eq_true rfl) wd_3_1 dX5_init_39 (fun q5 H hP hD hS => ?_)
  have hP : va_P g.2.2.1 vwCl [(h0, .inr (5, [.ref q1, .ref q2, .ref q3, .ref q4, .null, .int 0])), (q1, .inl (g.2.1 0, 8, .inl (fun _ => 0))), (q2, .inl (g.2.1 0, 8, .inl (fun _ => 0))), (q3, .inl (g.2.1 0, 8, .inl (fun _ => 0))), (q4, .inl (g.2.1 0, 8, .inl (fun _ => 0))), (q5, .inl (g.2.1 0, 32, .inl (fun _ => 0)))] H := hP
  have hD : va_D A [(h0, .inr (5, [.ref q1, .ref q2, .ref q3, .ref q4, .null, .int 0])), (q1, .inl (g.2.1 0, 8, .inl (fun _ => 0))), (q2, .inl (g.2.1 0, 8, .inl (fun _ => 0))), (q3, .inl (g.2.1 0, 8, .inl (fun _ => 0))), (q4, .inl (g.2.1 0, 8, .inl (fun _ => 0))), (q5, .inl (g.2.1 0, 32, .inl (fun _ => 0)))] := hD
  refine W.widen (k := 5) (n := 64) (Nat.le_of_ble_eq_true rfl) (Nat.le_of_ble_eq_true rfl) ?_
  refine va_putF (D := g.2.2.1) (ci := 5) (v := .ref q5) (ty := .array .int) (C := RX5) (T := TX5) (N := 6) hx hb hts inlX5 tyX5 tyX5_ok nmX5 hown hK.1 hP hD hS 0 rfl rfl 4 (by decide) (hts _ wd_4_10) (fun _ h9 => h9) rfl hin rfl rfl rfl rfl (Nat.le_of_ble_eq_true rfl) dX5_init_41 (fun H locs hP hD hS => ?_)
  have hP : va_P g.2.2.1 vwCl [(h0, .inr (5, [.ref q1, .ref q2, .ref q3, .ref q4, .ref q5, .int 0])), (q1, .inl (g.2.1 0, 8, .inl (fun _ => 0))), (q2, .inl (g.2.1 0, 8, .inl (fun _ => 0))), (q3, .inl (g.2.1 0, 8, .inl (fun _ => 0))), (q4, .inl (g.2.1 0, 8, .inl (fun _ => 0))), (q5, .inl (g.2.1 0, 32, .inl (fun _ => 0)))] H := hP
  have hD : va_D A [(h0, .inr (5, [.ref q1, .ref q2, .ref q3, .ref q4, .ref q5, .int 0])), (q1, .inl (g.2.1 0, 8, .inl (fun _ => 0))), (q2, .inl (g.2.1 0, 8, .inl (fun _ => 0))), (q3, .inl (g.2.1 0, 8, .inl (fun _ => 0))), (q4, .inl (g.2.1 0, 8, .inl (fun _ => 0))), (q5, .inl (g.2.1 0, 32, .inl (fun _ => 0)))] := hD
  exact n_ret Z hr hlk hAe ⟨q1, q2, q3, q4, q5, rfl⟩ hP hD hS dX5_init_44
def G6 (g : GG) (h0 : Nat) (w1 : va_W) : Prop := ∃ q1 : Nat, w1 = [(h0, .inr (6, [.ref q1, .int (-1 : Int32), .int 0])), (q1, .inl (g.2.1 0, 60, .inl (fun _ => 0)))]
set_option maxHeartbeats 4000000 in
set_option maxRecDepth 100000 in
theorem kX6_init (l : Launch) (g : GG) (h0 : Nat) : KN l yX6_init cX6_init 1 1 12 1 60 g [.ref h0] [(h0, .inr (6, [.null, .int 0, .int 0]))] (G6 g h0) := by
  refine n_start (by decide +kernel) (Nat.le_of_ble_eq_true rfl) ?_
  intro p e s m args below meth c ls A Z hKA hr hlk hin hP hD hA hAe hl
  have hK := hKA.1
  have hx := Z.1
  have hb := Z.2.1
  have hml := Z.2.2.1
  have hown := Z.2.2.2.1
  have hts := Z.2.2.2.2
  have hS : va_S A s.heap s.heap [] := va_S.rf
  have hl : lv_has ls 1 [(0, .ref h0)] := hl
  refine lv_aload_n hx hb dX6_init_0 rfl (lv_at hl 0 rfl) ?_
  refine W.objInit hx hb hown (hts _ wd_5_1) (hts _ wd_1_10) (hts _ wd_1_11) rfl (by rw [hml]; exact hl.1) rfl dX6_init_1 (Nat.le_of_ble_eq_true rfl) (Nat.le_of_ble_eq_true rfl) ?_
  refine W.eq (g2 := F0 m 4 ls []) rfl ?_
  refine lv_aload_n hx hb dX6_init_4 rfl (lv_at hl 0 rfl) ?_
  refine lv_bipush (v := (60 : Int32)) hx hb dX6_init_5 bp_60 ?_
  refine n_newa Z hK hP hD hS hA 60 (by decide) (by decide) (by decide) (Nat.le_of_ble_eq_true rfl) (Nat.le_of_ble_eq_true rfl) wd_3_1 dX6_init_7 (fun q1 H hP hD hS => ?_)
  have hP : va_P g.2.2.1 vwCl [(h0, .inr (6, [.null, .int 0, .int 0])), (q1, .inl (g.2.1 0, 60, .inl (fun _ => 0)))] H := hP
  have hD : va_D A [(h0, .inr (6, [.null, .int 0, .int 0])), (q1, .inl (g.2.1 0, 60, .inl (fun _ => 0)))] := hD
  refine W.widen (k := 1) (n := 60) (Nat.le_of_ble_eq_true rfl) (Nat.le_of_ble_eq_true rfl) ?_
  refine va_putF (D := g.2.2.1) (ci := 6) (v := .ref q1) (ty := .array .int) (C := RX6) (T := TX6) (N := 3) hx hb hts inlX6 tyX6 tyX6_ok nmX6 hown hK.1 hP hD hS 0 rfl rfl 0 (by decide) (hts _ wd_5_2) (fun _ h9 => h9) rfl hin rfl rfl rfl rfl (Nat.le_of_ble_eq_true rfl) dX6_init_9 (fun H locs hP hD hS => ?_)
  have hP : va_P g.2.2.1 vwCl [(h0, .inr (6, [.ref q1, .int 0, .int 0])), (q1, .inl (g.2.1 0, 60, .inl (fun _ => 0)))] H := hP
  have hD : va_D A [(h0, .inr (6, [.ref q1, .int 0, .int 0])), (q1, .inl (g.2.1 0, 60, .inl (fun _ => 0)))] := hD
  refine lv_aload_n hx hb dX6_init_12 rfl (lv_at hl 0 rfl) ?_
  refine lv_iconst (v := (-1 : Int32)) hx hb dX6_init_13 ic_m1 ?_
  refine va_put (D := g.2.2.1) (ci := 6) (v := .int (-1 : Int32)) (ty := .int) (C := RX6) (T := TX6) (N := 3) hx hb hts inlX6 tyX6 tyX6_ok nmX6 hown hK.1 hP hD hS 0 rfl rfl 1 (by decide) (hts _ wd_5_3) (fun _ h9 => h9) rfl rfl rfl rfl (Nat.le_of_ble_eq_true rfl) dX6_init_14 (fun H locs hP hD hS => ?_)
  have hP : va_P g.2.2.1 vwCl [(h0, .inr (6, [.ref q1, .int (-1 : Int32), .int 0])), (q1, .inl (g.2.1 0, 60, .inl (fun _ => 0)))] H := hP
  have hD : va_D A [(h0, .inr (6, [.ref q1, .int (-1 : Int32), .int 0])), (q1, .inl (g.2.1 0, 60, .inl (fun _ => 0)))] := hD
  exact n_ret Z hr hlk hAe ⟨q1, rfl⟩ hP hD hS dX6_init_17
def G8 (g : GG) (h0 : Nat) (w1 : va_W) : Prop := ∃ q1 : Nat, ∃ q2 : Nat, ∃ q3 : Nat, ∃ q4 : Nat, w1 = [(h0, .inr (8, [.ref q1, .ref q2, .ref q3, .ref q4, .int 0, .int (-1 : Int32)])), (q1, .inl (g.2.1 0, 8, .inl (fun _ => 0))), (q2, .inl (g.2.1 0, 8, .inl (fun _ => 0))), (q3, .inl (g.2.1 0, 8, .inl (fun _ => 0))), (q4, .inl (g.2.1 0, 8, .inl (fun _ => 0)))]
set_option maxHeartbeats 4000000 in
set_option maxRecDepth 100000 in
theorem kX8_init (l : Launch) (g : GG) (h0 : Nat) : KN l yX8_init cX8_init 1 1 12 4 32 g [.ref h0] [(h0, .inr (8, [.null, .null, .null, .null, .int 0, .int 0]))] (G8 g h0) := by
  refine n_start (by decide +kernel) (Nat.le_of_ble_eq_true rfl) ?_
  intro p e s m args below meth c ls A Z hKA hr hlk hin hP hD hA hAe hl
  have hK := hKA.1
  have hx := Z.1
  have hb := Z.2.1
  have hml := Z.2.2.1
  have hown := Z.2.2.2.1
  have hts := Z.2.2.2.2
  have hS : va_S A s.heap s.heap [] := va_S.rf
  have hl : lv_has ls 1 [(0, .ref h0)] := hl
  refine lv_aload_n hx hb dX8_init_0 rfl (lv_at hl 0 rfl) ?_
  refine W.objInit hx hb hown (hts _ wd_3_21) (hts _ wd_1_10) (hts _ wd_1_11) rfl (by rw [hml]; exact hl.1) rfl dX8_init_1 (Nat.le_of_ble_eq_true rfl) (Nat.le_of_ble_eq_true rfl) ?_
  refine W.eq (g2 := F0 m 4 ls []) rfl ?_
  refine lv_aload_n hx hb dX8_init_4 rfl (lv_at hl 0 rfl) ?_
  refine lv_bipush (v := (8 : Int32)) hx hb dX8_init_5 bp_8 ?_
  refine n_newa Z hK hP hD hS hA 8 (by decide) (by decide) (by decide) (Nat.le_of_ble_eq_true rfl) (Nat.le_of_ble_eq_true rfl) wd_3_1 dX8_init_7 (fun q1 H hP hD hS => ?_)
  have hP : va_P g.2.2.1 vwCl [(h0, .inr (8, [.null, .null, .null, .null, .int 0, .int 0])), (q1, .inl (g.2.1 0, 8, .inl (fun _ => 0)))] H := hP
  have hD : va_D A [(h0, .inr (8, [.null, .null, .null, .null, .int 0, .int 0])), (q1, .inl (g.2.1 0, 8, .inl (fun _ => 0)))] := hD
  refine W.widen (k := 1) (n := 8) (Nat.le_of_ble_eq_true rfl) (Nat.le_of_ble_eq_true rfl) ?_
  refine va_putF (D := g.2.2.1) (ci := 8) (v := .ref q1) (ty := .array .int) (C := RX8) (T := TX8) (N := 6) hx hb hts inlX8 tyX8 tyX8_ok nmX8 hown hK.1 hP hD hS 0 rfl rfl 0 (by decide) (hts _ wd_3_22) (fun _ h9 => h9) rfl hin rfl rfl rfl rfl (Nat.le_of_ble_eq_true rfl) dX8_init_9 (fun H locs hP hD hS => ?_)
  have hP : va_P g.2.2.1 vwCl [(h0, .inr (8, [.ref q1, .null, .null, .null, .int 0, .int 0])), (q1, .inl (g.2.1 0, 8, .inl (fun _ => 0)))] H := hP
  have hD : va_D A [(h0, .inr (8, [.ref q1, .null, .null, .null, .int 0, .int 0])), (q1, .inl (g.2.1 0, 8, .inl (fun _ => 0)))] := hD
  refine lv_aload_n hx hb dX8_init_12 rfl (lv_at hl 0 rfl) ?_
  refine lv_bipush (v := (8 : Int32)) hx hb dX8_init_13 bp_8 ?_
  refine n_newa Z hK hP hD hS hA 8 (by decide) (by decide) (by decide) (Nat.le_of_ble_eq_true rfl) (Nat.le_of_ble_eq_true rfl) wd_3_1 dX8_init_15 (fun q2 H hP hD hS => ?_)
  have hP : va_P g.2.2.1 vwCl [(h0, .inr (8, [.ref q1, .null, .null, .null, .int 0, .int 0])), (q1, .inl (g.2.1 0, 8, .inl (fun _ => 0))), (q2, .inl (g.2.1 0, 8, .inl (fun _ => 0)))] H := hP
  have hD : va_D A [(h0, .inr (8, [.ref q1, .null, .null, .null, .int 0, .int 0])), (q1, .inl (g.2.1 0, 8, .inl (fun _ => 0))), (q2, .inl (g.2.1 0, 8, .inl (fun _ => 0)))] := hD
  refine W.widen (k := 2) (n := 16) (Nat.le_of_ble_eq_true rfl) (Nat.le_of_ble_eq_true rfl) ?_
  refine va_putF (D := g.2.2.1) (ci := 8) (v := .ref q2) (ty := .array .int) (C := RX8) (T := TX8) (N := 6) hx hb hts inlX8 tyX8 tyX8_ok nmX8 hown hK.1 hP hD hS 0 rfl rfl 1 (by decide) (hts _ wd_3_23) (fun _ h9 => h9) rfl hin rfl rfl rfl rfl (Nat.le_of_ble_eq_true rfl) dX8_init_17 (fun H locs hP hD hS => ?_)
  have hP : va_P g.2.2.1 vwCl [(h0, .inr (8, [.ref q1, .ref q2, .null, .null, .int 0, .int 0])), (q1, .inl (g.2.1 0, 8, .inl (fun _ => 0))), (q2, .inl (g.2.1 0, 8, .inl (fun _ => 0)))] H := hP
  have hD : va_D A [(h0, .inr (8, [.ref q1, .ref q2, .null, .null, .int 0, .int 0])), (q1, .inl (g.2.1 0, 8, .inl (fun _ => 0))), (q2, .inl (g.2.1 0, 8, .inl (fun _ => 0)))] := hD
  refine lv_aload_n hx hb dX8_init_20 rfl (lv_at hl 0 rfl) ?_
  refine lv_bipush (v := (8 : Int32)) hx hb dX8_init_21 bp_8 ?_
  refine n_newa Z hK hP hD hS hA 8 (by decide) (by decide) (by decide) (Nat.le_of_ble_eq_true rfl) (Nat.le_of_ble_eq_true rfl) wd_3_1 dX8_init_23 (fun q3 H hP hD hS => ?_)
  have hP : va_P g.2.2.1 vwCl [(h0, .inr (8, [.ref q1, .ref q2, .null, .null, .int 0, .int 0])), (q1, .inl (g.2.1 0, 8, .inl (fun _ => 0))), (q2, .inl (g.2.1 0, 8, .inl (fun _ => 0))), (q3, .inl (g.2.1 0, 8, .inl (fun _ => 0)))] H := hP
  have hD : va_D A [(h0, .inr (8, [.ref q1, .ref q2, .null, .null, .int 0, .int 0])), (q1, .inl (g.2.1 0, 8, .inl (fun _ => 0))), (q2, .inl (g.2.1 0, 8, .inl (fun _ => 0))), (q3, .inl (g.2.1 0, 8, .inl (fun _ => 0)))] := hD
  refine W.widen (k := 3) (n := 24) (Nat.le_of_ble_eq_true rfl) (Nat.le_of_ble_eq_true rfl) ?_
  refine va_putF (D := g.2.2.1) (ci := 8) (v := .ref q3) (ty := .array .int) (C := RX8) (T := TX8) (N := 6) hx hb hts inlX8 tyX8 tyX8_ok nmX8 hown hK.1 hP hD hS 0 rfl rfl 2 (by decide) (hts _ wd_4_0) (fun _ h9 => h9) rfl hin rfl rfl rfl rfl (Nat.le_of_ble_eq_true rfl) dX8_init_25 (fun H locs hP hD hS => ?_)
  have hP : va_P g.2.2.1 vwCl [(h0, .inr (8, [.ref q1, .ref q2, .ref q3, .null, .int 0, .int 0])), (q1, .inl (g.2.1 0, 8, .inl (fun _ => 0))), (q2, .inl (g.2.1 0, 8, .inl (fun _ => 0))), (q3, .inl (g.2.1 0, 8, .inl (fun _ => 0)))] H := hP
  have hD : va_D A [(h0, .inr (8, [.ref q1, .ref q2, .ref q3, .null, .int 0, .int 0])), (q1, .inl (g.2.1 0, 8, .inl (fun _ => 0))), (q2, .inl (g.2.1 0, 8, .inl (fun _ => 0))), (q3, .inl (g.2.1 0, 8, .inl (fun _ => 0)))] := hD
  refine lv_aload_n hx hb dX8_init_28 rfl (lv_at hl 0 rfl) ?_
  refine lv_bipush (v := (8 : Int32)) hx hb dX8_init_29 bp_8 ?_
  refine n_newa Z hK hP hD hS hA 8 (by decide) (by decide) (by decide) (Nat.le_of_ble_eq_true rfl) (Nat.le_of_ble_eq_true rfl) wd_3_1 dX8_init_31 (fun q4 H hP hD hS => ?_)
  have hP : va_P g.2.2.1 vwCl [(h0, .inr (8, [.ref q1, .ref q2, .ref q3, .null, .int 0, .int 0])), (q1, .inl (g.2.1 0, 8, .inl (fun _ => 0))), (q2, .inl (g.2.1 0, 8, .inl (fun _ => 0))), (q3, .inl (g.2.1 0, 8, .inl (fun _ => 0))), (q4, .inl (g.2.1 0, 8, .inl (fun _ => 0)))] H := hP
  have hD : va_D A [(h0, .inr (8, [.ref q1, .ref q2, .ref q3, .null, .int 0, .int 0])), (q1, .inl (g.2.1 0, 8, .inl (fun _ => 0))), (q2, .inl (g.2.1 0, 8, .inl (fun _ => 0))), (q3, .inl (g.2.1 0, 8, .inl (fun _ => 0))), (q4, .inl (g.2.1 0, 8, .inl (fun _ => 0)))] := hD
  refine W.widen (k := 4) (n := 32) (Nat.le_of_ble_eq_true rfl) (Nat.le_of_ble_eq_true rfl) ?_
  refine va_putF (D := g.2.2.1) (ci := 8) (v := .ref q4) (ty := .array .int) (C := RX8) (T := TX8) (N := 6) hx hb hts inlX8 tyX8 tyX8_ok nmX8 hown hK.1 hP hD hS 0 rfl rfl 3 (by decide) (hts _ wd_4_1) (fun _ h9 => h9) rfl hin rfl rfl rfl rfl (Nat.le_of_ble_eq_true rfl) dX8_init_33 (fun H locs hP hD hS => ?_)
  have hP : va_P g.2.2.1 vwCl [(h0, .inr (8, [.ref q1, .ref q2, .ref q3, .ref q4, .int 0, .int 0])), (q1, .inl (g.2.1 0, 8, .inl (fun _ => 0))), (q2, .inl (g.2.1 0, 8, .inl (fun _ => 0))), (q3, .inl (g.2.1 0, 8, .inl (fun _ => 0))), (q4, .inl (g.2.1 0, 8, .inl (fun _ => 0)))] H := hP
  have hD : va_D A [(h0, .inr (8, [.ref q1, .ref q2, .ref q3, .ref q4, .int 0, .int 0])), (q1, .inl (g.2.1 0, 8, .inl (fun _ => 0))), (q2, .inl (g.2.1 0, 8, .inl (fun _ => 0))), (q3, .inl (g.2.1 0, 8, .inl (fun _ => 0))), (q4, .inl (g.2.1 0, 8, .inl (fun _ => 0)))] := hD
  refine lv_aload_n hx hb dX8_init_36 rfl (lv_at hl 0 rfl) ?_
  refine lv_iconst (v := (-1 : Int32)) hx hb dX8_init_37 ic_m1 ?_
  refine va_put (D := g.2.2.1) (ci := 8) (v := .int (-1 : Int32)) (ty := .int) (C := RX8) (T := TX8) (N := 6) hx hb hts inlX8 tyX8 tyX8_ok nmX8 hown hK.1 hP hD hS 0 rfl rfl 5 (by decide) (hts _ wd_4_2) (fun _ h9 => h9) rfl rfl rfl rfl (Nat.le_of_ble_eq_true rfl) dX8_init_38 (fun H locs hP hD hS => ?_)
  have hP : va_P g.2.2.1 vwCl [(h0, .inr (8, [.ref q1, .ref q2, .ref q3, .ref q4, .int 0, .int (-1 : Int32)])), (q1, .inl (g.2.1 0, 8, .inl (fun _ => 0))), (q2, .inl (g.2.1 0, 8, .inl (fun _ => 0))), (q3, .inl (g.2.1 0, 8, .inl (fun _ => 0))), (q4, .inl (g.2.1 0, 8, .inl (fun _ => 0)))] H := hP
  have hD : va_D A [(h0, .inr (8, [.ref q1, .ref q2, .ref q3, .ref q4, .int 0, .int (-1 : Int32)])), (q1, .inl (g.2.1 0, 8, .inl (fun _ => 0))), (q2, .inl (g.2.1 0, 8, .inl (fun _ => 0))), (q3, .inl (g.2.1 0, 8, .inl (fun _ => 0))), (q4, .inl (g.2.1 0, 8, .inl (fun _ => 0)))] := hD
  exact n_ret Z hr hlk hAe ⟨q1, q2, q3, q4, rfl⟩ hP hD hS dX8_init_41
def G7_23 (g : GG) (h0 : Nat) (w1 : va_W) : Prop := ∃ q1 : Nat, w1 = [(h0, .inr (7, [.ref q1, .int 0, .int (-1 : Int32)])), (q1, .inl (g.2.1 0, 23, .inl (fun _ => 0)))]
set_option maxHeartbeats 4000000 in
set_option maxRecDepth 100000 in
theorem kX7_init_23 (l : Launch) (g : GG) (h0 : Nat) : KN l yX7_init cX7_init 2 1 40 1 23 g [.ref h0, .int (23 : Int32)] [(h0, .inr (7, [.null, .int 0, .int 0]))] (G7_23 g h0) := by
  refine n_start (by decide +kernel) (Nat.le_of_ble_eq_true rfl) ?_
  intro p e s m args below meth c ls A Z hKA hr hlk hin hP hD hA hAe hl
  have hK := hKA.1
  have hx := Z.1
  have hb := Z.2.1
  have hml := Z.2.2.1
  have hown := Z.2.2.2.1
  have hts := Z.2.2.2.2
  have hS : va_S A s.heap s.heap [] := va_S.rf
  have hl : lv_has ls 2 [(0, .ref h0), (1, .int (23 : Int32))] := hl
  refine lv_aload_n hx hb dX7_init_0 rfl (lv_at hl 0 rfl) ?_
  refine W.objInit hx hb hown (hts _ wd_3_12) (hts _ wd_1_10) (hts _ wd_1_11) rfl (by rw [hml]; exact hl.1) rfl dX7_init_1 (Nat.le_of_ble_eq_true rfl) (Nat.le_of_ble_eq_true rfl) ?_
  refine W.eq (g2 := F0 m 4 ls []) rfl ?_
  refine lv_aload_n hx hb dX7_init_4 rfl (lv_at hl 0 rfl) ?_
  refine lv_iconst (v := (-1 : Int32)) hx hb dX7_init_5 ic_m1 ?_
  refine va_put (D := g.2.2.1) (ci := 7) (v := .int (-1 : Int32)) (ty := .int) (C := RX7) (T := TX7) (N := 3) hx hb hts inlX7 tyX7 tyX7_ok nmX7 hown hK.1 hP hD hS 0 rfl rfl 2 (by decide) (hts _ wd_3_13) (fun _ h9 => h9) rfl rfl rfl rfl (Nat.le_of_ble_eq_true rfl) dX7_init_6 (fun H locs hP hD hS => ?_)
  have hP : va_P g.2.2.1 vwCl [(h0, .inr (7, [.null, .int 0, .int (-1 : Int32)]))] H := hP
  have hD : va_D A [(h0, .inr (7, [.null, .int 0, .int (-1 : Int32)]))] := hD
  refine lv_aload_n hx hb dX7_init_9 rfl (lv_at hl 0 rfl) ?_
  refine lv_iconst (v := (0 : Int32)) hx hb dX7_init_10 ic_0 ?_
  refine lv_iload_n hx hb dX7_init_11 rfl (lv_at hl 1 rfl) ?_
  refine va_mmax hx hb (hml.trans hl.1.symm) hown (hts _ wd_3_14) (hts _ wd_3_15) (hts _ wd_3_16) (hts _ wd_3_17) (Nat.le_of_ble_eq_true rfl) (Nat.le_of_ble_eq_true rfl) (Nat.zero_le _) (Nat.zero_le _) dX7_init_12 ?_
  refine lv_topi (fun y0 ey => ?_)
  obtain rfl : y0 = (23 : Int32) := ey.trans (by decide)
  refine n_newa Z hK hP hD hS hA 23 (by decide) (by decide) (by decide) (Nat.le_of_ble_eq_true rfl) (Nat.le_of_ble_eq_true rfl) wd_3_1 dX7_init_15 (fun q1 H hP hD hS => ?_)
  have hP : va_P g.2.2.1 vwCl [(h0, .inr (7, [.null, .int 0, .int (-1 : Int32)])), (q1, .inl (g.2.1 0, 23, .inl (fun _ => 0)))] H := hP
  have hD : va_D A [(h0, .inr (7, [.null, .int 0, .int (-1 : Int32)])), (q1, .inl (g.2.1 0, 23, .inl (fun _ => 0)))] := hD
  refine W.widen (k := 1) (n := 23) (Nat.le_of_ble_eq_true rfl) (Nat.le_of_ble_eq_true rfl) ?_
  refine va_putF (D := g.2.2.1) (ci := 7) (v := .ref q1) (ty := .array .int) (C := RX7) (T := TX7) (N := 3) hx hb hts inlX7 tyX7 tyX7_ok nmX7 hown hK.1 hP hD hS 0 rfl rfl 0 (by decide) (hts _ wd_3_18) (fun _ h9 => h9) rfl hin rfl rfl rfl rfl (Nat.le_of_ble_eq_true rfl) dX7_init_17 (fun H locs hP hD hS => ?_)
  have hP : va_P g.2.2.1 vwCl [(h0, .inr (7, [.ref q1, .int 0, .int (-1 : Int32)])), (q1, .inl (g.2.1 0, 23, .inl (fun _ => 0)))] H := hP
  have hD : va_D A [(h0, .inr (7, [.ref q1, .int 0, .int (-1 : Int32)])), (q1, .inl (g.2.1 0, 23, .inl (fun _ => 0)))] := hD
  exact n_ret Z hr hlk hAe ⟨q1, rfl⟩ hP hD hS dX7_init_20
def G7_63 (g : GG) (h0 : Nat) (w1 : va_W) : Prop := ∃ q1 : Nat, w1 = [(h0, .inr (7, [.ref q1, .int 0, .int (-1 : Int32)])), (q1, .inl (g.2.1 0, 63, .inl (fun _ => 0)))]
set_option maxHeartbeats 4000000 in
set_option maxRecDepth 100000 in
theorem kX7_init_63 (l : Launch) (g : GG) (h0 : Nat) : KN l yX7_init cX7_init 2 1 40 1 63 g [.ref h0, .int (63 : Int32)] [(h0, .inr (7, [.null, .int 0, .int 0]))] (G7_63 g h0) := by
  refine n_start (by decide +kernel) (Nat.le_of_ble_eq_true rfl) ?_
  intro p e s m args below meth c ls A Z hKA hr hlk hin hP hD hA hAe hl
  have hK := hKA.1
  have hx := Z.1
  have hb := Z.2.1
  have hml := Z.2.2.1
  have hown := Z.2.2.2.1
  have hts := Z.2.2.2.2
  have hS : va_S A s.heap s.heap [] := va_S.rf
  have hl : lv_has ls 2 [(0, .ref h0), (1, .int (63 : Int32))] := hl
  refine lv_aload_n hx hb dX7_init_0 rfl (lv_at hl 0 rfl) ?_
  refine W.objInit hx hb hown (hts _ wd_3_12) (hts _ wd_1_10) (hts _ wd_1_11) rfl (by rw [hml]; exact hl.1) rfl dX7_init_1 (Nat.le_of_ble_eq_true rfl) (Nat.le_of_ble_eq_true rfl) ?_
  refine W.eq (g2 := F0 m 4 ls []) rfl ?_
  refine lv_aload_n hx hb dX7_init_4 rfl (lv_at hl 0 rfl) ?_
  refine lv_iconst (v := (-1 : Int32)) hx hb dX7_init_5 ic_m1 ?_
  refine va_put (D := g.2.2.1) (ci := 7) (v := .int (-1 : Int32)) (ty := .int) (C := RX7) (T := TX7) (N := 3) hx hb hts inlX7 tyX7 tyX7_ok nmX7 hown hK.1 hP hD hS 0 rfl rfl 2 (by decide) (hts _ wd_3_13) (fun _ h9 => h9) rfl rfl rfl rfl (Nat.le_of_ble_eq_true rfl) dX7_init_6 (fun H locs hP hD hS => ?_)
  have hP : va_P g.2.2.1 vwCl [(h0, .inr (7, [.null, .int 0, .int (-1 : Int32)]))] H := hP
  have hD : va_D A [(h0, .inr (7, [.null, .int 0, .int (-1 : Int32)]))] := hD
  refine lv_aload_n hx hb dX7_init_9 rfl (lv_at hl 0 rfl) ?_
  refine lv_iconst (v := (0 : Int32)) hx hb dX7_init_10 ic_0 ?_
  refine lv_iload_n hx hb dX7_init_11 rfl (lv_at hl 1 rfl) ?_
  refine va_mmax hx hb (hml.trans hl.1.symm) hown (hts _ wd_3_14) (hts _ wd_3_15) (hts _ wd_3_16) (hts _ wd_3_17) (Nat.le_of_ble_eq_true rfl) (Nat.le_of_ble_eq_true rfl) (Nat.zero_le _) (Nat.zero_le _) dX7_init_12 ?_
  refine lv_topi (fun y0 ey => ?_)
  obtain rfl : y0 = (63 : Int32) := ey.trans (by decide)
  refine n_newa Z hK hP hD hS hA 63 (by decide) (by decide) (by decide) (Nat.le_of_ble_eq_true rfl) (Nat.le_of_ble_eq_true rfl) wd_3_1 dX7_init_15 (fun q1 H hP hD hS => ?_)
  have hP : va_P g.2.2.1 vwCl [(h0, .inr (7, [.null, .int 0, .int (-1 : Int32)])), (q1, .inl (g.2.1 0, 63, .inl (fun _ => 0)))] H := hP
  have hD : va_D A [(h0, .inr (7, [.null, .int 0, .int (-1 : Int32)])), (q1, .inl (g.2.1 0, 63, .inl (fun _ => 0)))] := hD
  refine W.widen (k := 1) (n := 63) (Nat.le_of_ble_eq_true rfl) (Nat.le_of_ble_eq_true rfl) ?_
  refine va_putF (D := g.2.2.1) (ci := 7) (v := .ref q1) (ty := .array .int) (C := RX7) (T := TX7) (N := 3) hx hb hts inlX7 tyX7 tyX7_ok nmX7 hown hK.1 hP hD hS 0 rfl rfl 0 (by decide) (hts _ wd_3_18) (fun _ h9 => h9) rfl hin rfl rfl rfl rfl (Nat.le_of_ble_eq_true rfl) dX7_init_17 (fun H locs hP hD hS => ?_)
  have hP : va_P g.2.2.1 vwCl [(h0, .inr (7, [.ref q1, .int 0, .int (-1 : Int32)])), (q1, .inl (g.2.1 0, 63, .inl (fun _ => 0)))] H := hP
  have hD : va_D A [(h0, .inr (7, [.ref q1, .int 0, .int (-1 : Int32)])), (q1, .inl (g.2.1 0, 63, .inl (fun _ => 0)))] := hD
  exact n_ret Z hr hlk hAe ⟨q1, rfl⟩ hP hD hS dX7_init_20

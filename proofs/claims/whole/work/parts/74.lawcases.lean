theorem lg_self (r : Int64) : lg_cmp r r = 0 := by
  unfold lg_cmp
  rw [if_neg (by intro h; exact absurd h (by rw [gt_iff_lt, Int64.lt_iff_toInt_lt]; omega)), if_pos rfl]
theorem law_in {j L k : Nat} (h : j + 6 ≤ L) (hL : L ≤ 3072) (hk : k < 6) : vp_in (nI j + nI k) L := by
  rw [nI_add]
  exact vp_in_nI (by omega) (by omega)
theorem law_i0 {j L : Nat} (h : j + 6 ≤ L) (hL : L ≤ 3072) : vp_in (nI j) L := vp_in_nI (by omega) (by omega)
/-- what stays through the law -/
def LZ (p : Program) (s : State) (m : MethodId) (args : Array Value) (meth : Method) (c : Code) (l : Launch) (g : GG) (b L : Nat) (xs : Nat → Int32) (cells slots : Nat) : Prop := ZZ p s m args c code 4 R_law g ∧ va_X b L xs s s.heap ∧ b < s.heap.size ∧ ¬ AA g s.heap.size b ∧ L ≤ 3072 ∧ cells ≤ 600000 ∧ slots ≤ 7302250
section LROWS
variable {p : Program} {l : Launch} {e : Env} {R : Room} {s : State} {m : MethodId} {args : Array Value} {below : List Frame} {meth : Method} {c : Code} {H : Heap} {locs : List Loc} {cells slots : Nat} {Q : State → Prop}
variable {cc : ByteArray} {nL : Nat} {own : String} {g : GG} {pc : Nat} {ls : Array Slot} {rest : List Value} {mc mm : Mem}
theorem x_LI (Z : ZZ p s m args c cc nL own g) (hP : va_P g.2.2.1 vwCl (wL g mc mm) H) (hS : va_S (AA g s.heap.size) s.heap H locs) {y : MethodName} {b : ByteArray} {n fr lo index k : Nat} {ret : FieldType} {mc' mm' : Mem} {r : Int32} {As st : List Value} {o ci : Nat} (hM : KI l y b n ret fr lo g (.ref (g.1 o) :: As) mc mm r (mc', mm')) (ho : o < 131 ∧ kd o = ci) (hci : ci < 11) {q : vw_C} (hc : vwCl[ci]? = some q) (hqc : q.1 = y.cls) (hm : mFix y b n (some ret) k) (hv : mVirt y) (hl : Cond.methodLink own index y ∈ wsL_law) (hlen : As.length = k) (hst : st = As.reverse ++ .ref (g.1 o) :: rest) (hsz : ls.size = nL) (hro : (rest.map fun v => v.category).sum ≤ 8) (hR : fr + 1 ≤ R.frames ∧ 8 + (n + 11) + lo ≤ R.locals) (hdg : decode cc pc = .ok (.invokevirtual index, 3)) (hcs : cells + 0 ≤ R.cells ∧ slots + 0 ≤ R.slots) (kk : ∀ (H : Heap) (locs : List Loc), va_P g.2.2.1 vwCl (wL g mc' mm') H → va_S (AA g s.heap.size) s.heap H locs → W p l e R s m args below meth c H locs cells slots Q (F0 m (pc + 3) ls (.int r :: rest))) : W p l e R s m args below meth c H locs cells slots Q (F0 m pc ls st) := by
  subst hst
  obtain ⟨fs, he⟩ := wL_obj (g := g) (mc := mc) (mm := mm) ho.1 ho.2 hci
  refine va_calli (va_runV (C := y.cls) (As := As) (rest := rest) Z.1 (hM H.size) ⟨x_cB Z hm hl hR, Z.1.2.2.2.2 _ hv.1, Z.1.2.2.2.2 _ hv.2⟩ ⟨PC_blind, by rw [← hqc]; exact va_recv Z.2.1.1 hP hc he, fun U hU hW => ⟨rfl, x_pc Z hP hS hU hW⟩⟩ rfl hlen hsz rfl (lv_room hro) hdg hcs) hS (fun q _ h => x_af hS q h) (x_af hS) (fun r' u t H1 l1 ht hvm hq hB hz hk hS1 => ?_)
  obtain ⟨rfl, rfl⟩ := hq
  exact kk H1 l1 (by rw [← ht]; exact hB) hS1
theorem x_LL (Z : ZZ p s m args c cc nL own g) (hP : va_P g.2.2.1 vwCl (wL g mc mm) H) (hS : va_S (AA g s.heap.size) s.heap H locs) {y : MethodName} {b : ByteArray} {n fr lo index k : Nat} {mc' mm' : Mem} {r : Int64} {As st : List Value} {o ci : Nat} (hM : KL l y b n fr lo g (.ref (g.1 o) :: As) mc mm r (mc', mm')) (ho : o < 131 ∧ kd o = ci) (hci : ci < 11) {q : vw_C} (hc : vwCl[ci]? = some q) (hqc : q.1 = y.cls) (hm : mFix y b n (some .long) k) (hv : mVirt y) (hl : Cond.methodLink own index y ∈ wsL_law) (hlen : As.length = k) (hst : st = As.reverse ++ .ref (g.1 o) :: rest) (hsz : ls.size = nL) (hro : (rest.map fun v => v.category).sum ≤ 8) (hR : fr + 1 ≤ R.frames ∧ 8 + (n + 11) + lo ≤ R.locals) (hdg : decode cc pc = .ok (.invokevirtual index, 3)) (hcs : cells + 0 ≤ R.cells ∧ slots + 0 ≤ R.slots) (kk : ∀ (H : Heap) (locs : List Loc), va_P g.2.2.1 vwCl (wL g mc' mm') H → va_S (AA g s.heap.size) s.heap H locs → W p l e R s m args below meth c H locs cells slots Q (F0 m (pc + 3) ls (.long r :: rest))) : W p l e R s m args below meth c H locs cells slots Q (F0 m pc ls st) := by
  subst hst
  obtain ⟨fs, he⟩ := wL_obj (g := g) (mc := mc) (mm := mm) ho.1 ho.2 hci
  refine va_calll (va_runV (C := y.cls) (As := As) (rest := rest) Z.1 (hM H.size) ⟨x_cB Z hm hl hR, Z.1.2.2.2.2 _ hv.1, Z.1.2.2.2.2 _ hv.2⟩ ⟨PC_blind, by rw [← hqc]; exact va_recv Z.2.1.1 hP hc he, fun U hU hW => ⟨rfl, x_pc Z hP hS hU hW⟩⟩ rfl hlen hsz rfl (lv_room hro) hdg hcs) hS (fun q _ h => x_af hS q h) (x_af hS) (fun r' u t H1 l1 ht hvm hq hB hz hk hS1 => ?_)
  obtain ⟨rfl, rfl⟩ := hq
  exact kk H1 l1 (by rw [← ht]; exact hB) hS1
end LROWS
def LS_0 (Inv : Mem → Mem → Prop) : Prop := ∀ (mc mm : Mem), Inv mc mm → ∀ (a1 a2 : Int32), ∃ (r : Int32) (mc' : Mem) (mm' : Mem), F9_type a1 a2 mc = some (r, mc') ∧ F10_type a1 a2 mm = some (r, mm') ∧ Inv mc' mm'
def LS_1 (Inv : Mem → Mem → Prop) : Prop := ∀ (mc mm : Mem), Inv mc mm → ∀ (a1 : Int32), ∃ (r : Int32) (mc' : Mem) (mm' : Mem), F9_wipe a1 mc = some (r, mc') ∧ F10_wipe a1 mm = some (r, mm') ∧ Inv mc' mm'
def LS_2 (Inv : Mem → Mem → Prop) : Prop := ∀ (mc mm : Mem), Inv mc mm → ∀ (a1 : Int32), ∃ (r : Int32) (mc' : Mem) (mm' : Mem), F9_undo a1 mc = some (r, mc') ∧ F10_undo a1 mm = some (r, mm') ∧ Inv mc' mm'
def LS_3 (Inv : Mem → Mem → Prop) : Prop := ∀ (mc mm : Mem), Inv mc mm → ∀ (a1 : Int32), ∃ (r : Int32) (mm' : Mem), F9_fault a1 mc = some r ∧ F10_fault a1 mm = some (r, mm') ∧ Inv mc mm'
def LS_4 (Inv : Mem → Mem → Prop) : Prop := ∀ (mc mm : Mem), Inv mc mm → ∀ (a1 a2 : Int32), ∃ (r : Int32) (mm' : Mem), F9_well a1 a2 mc = some r ∧ F10_well a1 a2 mm = some (r, mm') ∧ Inv mc mm'
def LS_5 (Inv : Mem → Mem → Prop) : Prop := ∀ (mc mm : Mem), Inv mc mm → ∀ (a1 a2 : Int32), ∃ (r : Int32) (mm' : Mem), F9_saying a1 a2 mc = some r ∧ F10_saying a1 a2 mm = some (r, mm') ∧ Inv mc mm'
def LS_6 (Inv : Mem → Mem → Prop) : Prop := ∀ (mc mm : Mem), Inv mc mm → ∀ (a1 a2 a3 : Int32), ∃ (r : Int32) (mc' : Mem) (mm' : Mem), F9_event a1 a2 a3 mc = some (r, mc') ∧ F10_event a1 a2 a3 mm = some (r, mm') ∧ Inv mc' mm'
def LS_7 (Inv : Mem → Mem → Prop) : Prop := ∀ (mc mm : Mem), Inv mc mm → ∃ (r : Int32) (mc' : Mem) (mm' : Mem), F9_back mc = some (r, mc') ∧ F10_back mm = some (r, mm') ∧ Inv mc' mm'
def LS_8 (Inv : Mem → Mem → Prop) : Prop := ∀ (mc mm : Mem), Inv mc mm → ∀ (a1 : Int32), ∃ (r : Int32) (mc' : Mem) (mm' : Mem), F9_read a1 mc = some (r, mc') ∧ F10_read a1 mm = some (r, mm') ∧ Inv mc' mm'
def LS_9 (Inv : Mem → Mem → Prop) : Prop := ∀ (mc mm : Mem), Inv mc mm → ∀ (a1 a2 a3 : Int32), ∃ (r : Int32) (mc' : Mem) (mm' : Mem), F9_at a1 a2 a3 mc = some (r, mc') ∧ F10_at a1 a2 a3 mm = some (r, mm') ∧ Inv mc' mm'
def LS_10 (Inv : Mem → Mem → Prop) : Prop := ∀ (mc mm : Mem), Inv mc mm → ∀ (a1 : Int32), ∃ (r : Int32) (mc' : Mem) (mm' : Mem), F9_hears a1 mc = some (r, mc') ∧ F10_hears a1 mm = some (r, mm') ∧ Inv mc' mm'
def LS_11 (Inv : Mem → Mem → Prop) : Prop := ∀ (mc mm : Mem), Inv mc mm → ∀ (a1 : Int32), ∃ (r : Int32) (mc' : Mem) (mm' : Mem), F9_soon a1 mc = some (r, mc') ∧ F10_soon a1 mm = some (r, mm') ∧ Inv mc' mm'
def LS_12 (Inv : Mem → Mem → Prop) : Prop := ∀ (mc mm : Mem), Inv mc mm → ∃ (r : Int32) (mc' : Mem) (mm' : Mem), F9_gone mc = some (r, mc') ∧ F10_gone mm = some (r, mm') ∧ Inv mc' mm'
def LS_13 (Inv : Mem → Mem → Prop) : Prop := ∀ (mc mm : Mem), Inv mc mm → ∀ (a1 : Int32), ∃ (r : Int32) (mc' : Mem) (mm' : Mem), F9_babel a1 mc = some (r, mc') ∧ F10_babel a1 mm = some (r, mm') ∧ Inv mc' mm'
def LS_14 (Inv : Mem → Mem → Prop) : Prop := ∀ (mc mm : Mem), Inv mc mm → ∀ (a1 a2 a3 : Int32), ∃ (r : Int32) (mc' : Mem) (mm' : Mem), F9_tell a1 a2 a3 mc = some (r, mc') ∧ F10_tell a1 a2 a3 mm = some (r, mm') ∧ Inv mc' mm'
def LS_15 (Inv : Mem → Mem → Prop) : Prop := ∀ (mc mm : Mem), Inv mc mm → ∀ (a1 a2 : Int32), ∃ (r : Int32) (mc' : Mem) (mm' : Mem), F9_toss a1 a2 mc = some (r, mc') ∧ F10_toss a1 a2 mm = some (r, mm') ∧ Inv mc' mm'
def LS_16 (Inv : Mem → Mem → Prop) : Prop := ∀ (mc mm : Mem), Inv mc mm → ∀ (a1 a2 : Int32), ∃ (r : Int32) (mc' : Mem) (mm' : Mem), F9_open a1 a2 mc = some (r, mc') ∧ F10_open a1 a2 mm = some (r, mm') ∧ Inv mc' mm'
def LS_17 (Inv : Mem → Mem → Prop) : Prop := ∀ (mc mm : Mem), Inv mc mm → ∀ (a1 : Int32), ∃ (r : Int32) (mc' : Mem) (mm' : Mem), F9_iron a1 mc = some (r, mc') ∧ F10_iron a1 mm = some (r, mm') ∧ Inv mc' mm'
def LS_18 (Inv : Mem → Mem → Prop) : Prop := ∀ (mc mm : Mem), Inv mc mm → ∀ (a1 a2 a3 : Int32), ∃ (r : Int32) (mc' : Mem) (mm' : Mem), F9_draw a1 a2 a3 mc = some (r, mc') ∧ F10_draw a1 a2 a3 mm = some (r, mm') ∧ Inv mc' mm'
def LS_19 (Inv : Mem → Mem → Prop) : Prop := ∀ (mc mm : Mem), Inv mc mm → ∃ (r : Int32) (mc' : Mem) (mm' : Mem), F9_forget mc = some (r, mc') ∧ F10_forget mm = some (r, mm') ∧ Inv mc' mm'
def LS_20 (Inv : Mem → Mem → Prop) : Prop := ∀ (mc mm : Mem), Inv mc mm → ∃ (r : Int32) (mc' : Mem) (mm' : Mem), F9_never mc = some (r, mc') ∧ F10_never mm = some (r, mm') ∧ Inv mc' mm'
def LS_21 (Inv : Mem → Mem → Prop) : Prop := ∀ (mc mm : Mem), Inv mc mm → ∀ (a1 a2 : Int32), ∃ (r : Int32) (mc' : Mem) (mm' : Mem), F9_stone a1 a2 mc = some (r, mc') ∧ F10_stone a1 a2 mm = some (r, mm') ∧ Inv mc' mm'
def LS_22 (Inv : Mem → Mem → Prop) : Prop := ∀ (mc mm : Mem), Inv mc mm → ∀ (a1 : Int32), ∃ (r : Int32) (mc' : Mem) (mm' : Mem), F9_bucket a1 mc = some (r, mc') ∧ F10_bucket a1 mm = some (r, mm') ∧ Inv mc' mm'
def LS_23 (Inv : Mem → Mem → Prop) : Prop := ∀ (mc mm : Mem), Inv mc mm → ∀ (a1 : Int32), ∃ (r : Int32) (mc' : Mem) (mm' : Mem), F9_ask a1 mc = some (r, mc') ∧ F10_ask a1 mm = some (r, mm') ∧ Inv mc' mm'
def LS_24 (Inv : Mem → Mem → Prop) : Prop := ∀ (mc mm : Mem), Inv mc mm → ∀ (a1 a2 a3 a4 : Int32), ∃ (r : Int64) (mc' : Mem) (mm' : Mem), F9_chance a1 a2 a3 a4 mc = some (r, mc') ∧ F10_chance a1 a2 a3 a4 mm = some (r, mm') ∧ Inv mc' mm'
def LS_25 (Inv : Mem → Mem → Prop) : Prop := ∀ (mc mm : Mem), Inv mc mm → ∀ (a1 a2 a3 : Int32), ∃ (r : Int32) (mc' : Mem) (mm' : Mem), F9_day a1 a2 a3 mc = some (r, mc') ∧ F10_day a1 a2 a3 mm = some (r, mm') ∧ Inv mc' mm'
def LS_26 (Inv : Mem → Mem → Prop) : Prop := ∀ (mc mm : Mem), Inv mc mm → ∀ (a1 a2 a3 : Int32), ∃ (r : Int32) (mc' : Mem) (mm' : Mem), F9_sheet a1 a2 a3 mc = some (r, mc') ∧ F10_sheet a1 a2 a3 mm = some (r, mm') ∧ Inv mc' mm'
def LS_27 (Inv : Mem → Mem → Prop) : Prop := ∀ (mc mm : Mem), Inv mc mm → ∀ (a1 : Int32), ∃ (r : Int32) (mc' : Mem) (mm' : Mem), F9_lose a1 mc = some (r, mc') ∧ F10_lose a1 mm = some (r, mm') ∧ Inv mc' mm'
def LS_28 (Inv : Mem → Mem → Prop) : Prop := ∀ (mc mm : Mem), Inv mc mm → ∀ (a1 a2 a3 a4 : Int32), ∃ (r : Int32) (mc' : Mem) (mm' : Mem), F9_lay a1 a2 a3 a4 mc = some (r, mc') ∧ F10_lay a1 a2 a3 a4 mm = some (r, mm') ∧ Inv mc' mm'
def LS_29 (Inv : Mem → Mem → Prop) : Prop := ∀ (mc mm : Mem), Inv mc mm → ∀ (a1 a2 a3 : Int32), ∃ (r : Int32) (mc' : Mem) (mm' : Mem), F9_get a1 a2 a3 mc = some (r, mc') ∧ F10_get a1 a2 a3 mm = some (r, mm') ∧ Inv mc' mm'
def LS_30 (Inv : Mem → Mem → Prop) : Prop := ∀ (mc mm : Mem), Inv mc mm → ∀ (a1 a2 a3 a4 a5 : Int32), ∃ (r : Int32) (mc' : Mem) (mm' : Mem), F9_copy a1 a2 a3 a4 a5 mc = some (r, mc') ∧ F10_copy a1 a2 a3 a4 a5 mm = some (r, mm') ∧ Inv mc' mm'
def LS_31 (Inv : Mem → Mem → Prop) : Prop := ∀ (mc mm : Mem), Inv mc mm → ∀ (a1 a2 : Int32), ∃ (r : Int32) (mc' : Mem) (mm' : Mem), F9_write a1 a2 mc = some (r, mc') ∧ F10_write a1 a2 mm = some (r, mm') ∧ Inv mc' mm'
def LS_32 (Inv : Mem → Mem → Prop) : Prop := ∀ (mc mm : Mem), Inv mc mm → ∀ (a1 : Int32), ∃ (r : Int32) (mc' : Mem) (mm' : Mem), F9_count a1 mc = some (r, mc') ∧ F10_count a1 mm = some (r, mm') ∧ Inv mc' mm'
def LS_33 (Inv : Mem → Mem → Prop) : Prop := ∀ (mc mm : Mem), Inv mc mm → ∃ (r : Int64) (mc' : Mem) (mm' : Mem), F9_digest mc = some (r, mc') ∧ F10_digest mm = some (r, mm') ∧ Inv mc' mm'
def LSt (Inv : Mem → Mem → Prop) : Prop := LS_0 Inv ∧ LS_1 Inv ∧ LS_2 Inv ∧ LS_3 Inv ∧ LS_4 Inv ∧ LS_5 Inv ∧ LS_6 Inv ∧ LS_7 Inv ∧ LS_8 Inv ∧ LS_9 Inv ∧ LS_10 Inv ∧ LS_11 Inv ∧ LS_12 Inv ∧ LS_13 Inv ∧ LS_14 Inv ∧ LS_15 Inv ∧ LS_16 Inv ∧ LS_17 Inv ∧ LS_18 Inv ∧ LS_19 Inv ∧ LS_20 Inv ∧ LS_21 Inv ∧ LS_22 Inv ∧ LS_23 Inv ∧ LS_24 Inv ∧ LS_25 Inv ∧ LS_26 Inv ∧ LS_27 Inv ∧ LS_28 Inv ∧ LS_29 Inv ∧ LS_30 Inv ∧ LS_31 Inv ∧ LS_32 Inv ∧ LS_33 Inv
set_option maxHeartbeats 4000000 in
theorem lcase_0 {p : Program} {e : Env} {s : State} {m : MethodId} {args : Array Value} {below : List Frame} {meth : Method} {c : Code} {l : Launch} {g : GG} {b L : Nat} {xs : Nat → Int32} {cells slots : Nat} {Q : State → Prop} {H : Heap} {locs : List Loc} {ls : Array Slot} {mc mm : Mem} {j : Nat} (Inv : Mem → Mem → Prop) (hs : LS_0 Inv) (Z : LZ p s m args meth c l g b L xs cells slots) (hI : Inv mc mm) (hj : j + 6 ≤ L) (hl : lv_has ls 4 [(0, .ref b), (1, .ref (g.1 0)), (2, .ref (g.1 108)), (3, .int (nI j))]) (hP : va_P g.2.2.1 vwCl (wL g mc mm) H) (hS : va_S (AA g s.heap.size) s.heap H locs) (kk : ∀ (mc mm : Mem) (H : Heap) (locs : List Loc), Inv mc mm → va_P g.2.2.1 vwCl (wL g mc mm) H → va_S (AA g s.heap.size) s.heap H locs → W p l e room_1 s m args below meth c H locs cells slots Q (F0 m 1228 ls [])) : W p l e room_1 s m args below meth c H locs cells slots Q (F0 m 184 ls []) := by
  have hx := Z.1.1.1
  have hb := Z.1.1.2.1
  obtain ⟨r, mc1, mm1, h9, h10, hI2⟩ := hs mc mm hI (xs (nI j + nI 1).toNatClampNeg) (xs (nI j + nI 2).toNatClampNeg)
  refine lv_aload_n hx hb dL_law_184 rfl (lv_at hl 1 rfl) ?_
  refine lv_aload_n hx hb dL_law_185 rfl (lv_at hl 0 rfl) ?_
  refine lv_iload_n hx hb dL_law_186 rfl (lv_at hl 3 rfl) ?_
  refine lv_iconst (v := nI 1) hx hb dL_law_187 (by decide) ?_
  refine lv_iadd hx hb dL_law_188 ?_
  refine va_sld hx hb Z.2.1 Z.2.2.1 Z.2.2.2.1 hS (law_in hj Z.2.2.2.2.1 (by decide)) dL_law_189 ?_
  refine lv_aload_n hx hb dL_law_190 rfl (lv_at hl 0 rfl) ?_
  refine lv_iload_n hx hb dL_law_191 rfl (lv_at hl 3 rfl) ?_
  refine lv_iconst (v := nI 2) hx hb dL_law_192 (by decide) ?_
  refine lv_iadd hx hb dL_law_193 ?_
  refine va_sld hx hb Z.2.1 Z.2.2.1 Z.2.2.2.1 hS (law_in hj Z.2.2.2.2.1 (by decide)) dL_law_194 ?_
  refine x_LI (rest := []) Z.1 hP hS (kX9_type l g _ _ mc mm _ h9) (isO_w ck_0) (ci := 9) (by decide) rfl rfl mf_X9_type mv_X9_type wd_7_3 rfl rfl hl.1 (Nat.le_of_ble_eq_true rfl) ⟨Nat.le_of_ble_eq_true rfl, Nat.le_of_ble_eq_true rfl⟩ dL_law_195 ⟨Z.2.2.2.2.2.1, Z.2.2.2.2.2.2⟩ (fun H locs hP hS => ?_)
  refine lv_aload_n hx hb dL_law_198 rfl (lv_at hl 2 rfl) ?_
  refine lv_aload_n hx hb dL_law_199 rfl (lv_at hl 0 rfl) ?_
  refine lv_iload_n hx hb dL_law_200 rfl (lv_at hl 3 rfl) ?_
  refine lv_iconst (v := nI 1) hx hb dL_law_201 (by decide) ?_
  refine lv_iadd hx hb dL_law_202 ?_
  refine va_sld hx hb Z.2.1 Z.2.2.1 Z.2.2.2.1 hS (law_in hj Z.2.2.2.2.1 (by decide)) dL_law_203 ?_
  refine lv_aload_n hx hb dL_law_204 rfl (lv_at hl 0 rfl) ?_
  refine lv_iload_n hx hb dL_law_205 rfl (lv_at hl 3 rfl) ?_
  refine lv_iconst (v := nI 2) hx hb dL_law_206 (by decide) ?_
  refine lv_iadd hx hb dL_law_207 ?_
  refine va_sld hx hb Z.2.1 Z.2.2.1 Z.2.2.2.1 hS (law_in hj Z.2.2.2.2.1 (by decide)) dL_law_208 ?_
  refine x_LI (rest := [.int r]) Z.1 hP hS (kX10_type l g _ _ mc1 mm _ h10) (mO) (ci := 10) (by decide) rfl rfl mf_X10_type mv_X10_type wd_13_0 rfl rfl hl.1 (Nat.le_of_ble_eq_true rfl) ⟨Nat.le_of_ble_eq_true rfl, Nat.le_of_ble_eq_true rfl⟩ dL_law_209 ⟨Z.2.2.2.2.2.1, Z.2.2.2.2.2.2⟩ (fun H locs hP hS => ?_)
  refine lv_icmp_eq (tgt := 1228) hx hb dL_law_212 rfl (fun _ => ?_) (fun hc => absurd rfl hc)
  exact kk _ _ H locs hI2 hP hS
set_option maxHeartbeats 4000000 in
theorem lcase_1 {p : Program} {e : Env} {s : State} {m : MethodId} {args : Array Value} {below : List Frame} {meth : Method} {c : Code} {l : Launch} {g : GG} {b L : Nat} {xs : Nat → Int32} {cells slots : Nat} {Q : State → Prop} {H : Heap} {locs : List Loc} {ls : Array Slot} {mc mm : Mem} {j : Nat} (Inv : Mem → Mem → Prop) (hs : LS_1 Inv) (Z : LZ p s m args meth c l g b L xs cells slots) (hI : Inv mc mm) (hj : j + 6 ≤ L) (hl : lv_has ls 4 [(0, .ref b), (1, .ref (g.1 0)), (2, .ref (g.1 108)), (3, .int (nI j))]) (hP : va_P g.2.2.1 vwCl (wL g mc mm) H) (hS : va_S (AA g s.heap.size) s.heap H locs) (kk : ∀ (mc mm : Mem) (H : Heap) (locs : List Loc), Inv mc mm → va_P g.2.2.1 vwCl (wL g mc mm) H → va_S (AA g s.heap.size) s.heap H locs → W p l e room_1 s m args below meth c H locs cells slots Q (F0 m 1228 ls [])) : W p l e room_1 s m args below meth c H locs cells slots Q (F0 m 217 ls []) := by
  have hx := Z.1.1.1
  have hb := Z.1.1.2.1
  obtain ⟨r, mc1, mm1, h9, h10, hI2⟩ := hs mc mm hI (xs (nI j + nI 1).toNatClampNeg)
  refine lv_aload_n hx hb dL_law_217 rfl (lv_at hl 1 rfl) ?_
  refine lv_aload_n hx hb dL_law_218 rfl (lv_at hl 0 rfl) ?_
  refine lv_iload_n hx hb dL_law_219 rfl (lv_at hl 3 rfl) ?_
  refine lv_iconst (v := nI 1) hx hb dL_law_220 (by decide) ?_
  refine lv_iadd hx hb dL_law_221 ?_
  refine va_sld hx hb Z.2.1 Z.2.2.1 Z.2.2.2.1 hS (law_in hj Z.2.2.2.2.1 (by decide)) dL_law_222 ?_
  refine x_LI (rest := []) Z.1 hP hS (kX9_wipe l g _ mc mm _ h9) (isO_w ck_0) (ci := 9) (by decide) rfl rfl mf_X9_wipe mv_X9_wipe wd_13_11 rfl rfl hl.1 (Nat.le_of_ble_eq_true rfl) ⟨Nat.le_of_ble_eq_true rfl, Nat.le_of_ble_eq_true rfl⟩ dL_law_223 ⟨Z.2.2.2.2.2.1, Z.2.2.2.2.2.2⟩ (fun H locs hP hS => ?_)
  refine lv_aload_n hx hb dL_law_226 rfl (lv_at hl 2 rfl) ?_
  refine lv_aload_n hx hb dL_law_227 rfl (lv_at hl 0 rfl) ?_
  refine lv_iload_n hx hb dL_law_228 rfl (lv_at hl 3 rfl) ?_
  refine lv_iconst (v := nI 1) hx hb dL_law_229 (by decide) ?_
  refine lv_iadd hx hb dL_law_230 ?_
  refine va_sld hx hb Z.2.1 Z.2.2.1 Z.2.2.2.1 hS (law_in hj Z.2.2.2.2.1 (by decide)) dL_law_231 ?_
  refine x_LI (rest := [.int r]) Z.1 hP hS (kX10_wipe l g _ mc1 mm _ h10) (mO) (ci := 10) (by decide) rfl rfl mf_X10_wipe mv_X10_wipe wd_13_15 rfl rfl hl.1 (Nat.le_of_ble_eq_true rfl) ⟨Nat.le_of_ble_eq_true rfl, Nat.le_of_ble_eq_true rfl⟩ dL_law_232 ⟨Z.2.2.2.2.2.1, Z.2.2.2.2.2.2⟩ (fun H locs hP hS => ?_)
  refine lv_icmp_eq (tgt := 1228) hx hb dL_law_235 rfl (fun _ => ?_) (fun hc => absurd rfl hc)
  exact kk _ _ H locs hI2 hP hS
set_option maxHeartbeats 4000000 in
theorem lcase_2 {p : Program} {e : Env} {s : State} {m : MethodId} {args : Array Value} {below : List Frame} {meth : Method} {c : Code} {l : Launch} {g : GG} {b L : Nat} {xs : Nat → Int32} {cells slots : Nat} {Q : State → Prop} {H : Heap} {locs : List Loc} {ls : Array Slot} {mc mm : Mem} {j : Nat} (Inv : Mem → Mem → Prop) (hs : LS_2 Inv) (Z : LZ p s m args meth c l g b L xs cells slots) (hI : Inv mc mm) (hj : j + 6 ≤ L) (hl : lv_has ls 4 [(0, .ref b), (1, .ref (g.1 0)), (2, .ref (g.1 108)), (3, .int (nI j))]) (hP : va_P g.2.2.1 vwCl (wL g mc mm) H) (hS : va_S (AA g s.heap.size) s.heap H locs) (kk : ∀ (mc mm : Mem) (H : Heap) (locs : List Loc), Inv mc mm → va_P g.2.2.1 vwCl (wL g mc mm) H → va_S (AA g s.heap.size) s.heap H locs → W p l e room_1 s m args below meth c H locs cells slots Q (F0 m 1228 ls [])) : W p l e room_1 s m args below meth c H locs cells slots Q (F0 m 240 ls []) := by
  have hx := Z.1.1.1
  have hb := Z.1.1.2.1
  obtain ⟨r, mc1, mm1, h9, h10, hI2⟩ := hs mc mm hI (xs (nI j + nI 1).toNatClampNeg)
  refine lv_aload_n hx hb dL_law_240 rfl (lv_at hl 1 rfl) ?_
  refine lv_aload_n hx hb dL_law_241 rfl (lv_at hl 0 rfl) ?_
  refine lv_iload_n hx hb dL_law_242 rfl (lv_at hl 3 rfl) ?_
  refine lv_iconst (v := nI 1) hx hb dL_law_243 (by decide) ?_
  refine lv_iadd hx hb dL_law_244 ?_
  refine va_sld hx hb Z.2.1 Z.2.2.1 Z.2.2.2.1 hS (law_in hj Z.2.2.2.2.1 (by decide)) dL_law_245 ?_
  refine x_LI (rest := []) Z.1 hP hS (kX9_undo l g _ mc mm _ h9) (isO_w ck_0) (ci := 9) (by decide) rfl rfl mf_X9_undo mv_X9_undo wd_13_19 rfl rfl hl.1 (Nat.le_of_ble_eq_true rfl) ⟨Nat.le_of_ble_eq_true rfl, Nat.le_of_ble_eq_true rfl⟩ dL_law_246 ⟨Z.2.2.2.2.2.1, Z.2.2.2.2.2.2⟩ (fun H locs hP hS => ?_)
  refine lv_aload_n hx hb dL_law_249 rfl (lv_at hl 2 rfl) ?_
  refine lv_aload_n hx hb dL_law_250 rfl (lv_at hl 0 rfl) ?_
  refine lv_iload_n hx hb dL_law_251 rfl (lv_at hl 3 rfl) ?_
  refine lv_iconst (v := nI 1) hx hb dL_law_252 (by decide) ?_
  refine lv_iadd hx hb dL_law_253 ?_
  refine va_sld hx hb Z.2.1 Z.2.2.1 Z.2.2.2.1 hS (law_in hj Z.2.2.2.2.1 (by decide)) dL_law_254 ?_
  refine x_LI (rest := [.int r]) Z.1 hP hS (kX10_undo l g _ mc1 mm _ h10) (mO) (ci := 10) (by decide) rfl rfl mf_X10_undo mv_X10_undo wd_13_23 rfl rfl hl.1 (Nat.le_of_ble_eq_true rfl) ⟨Nat.le_of_ble_eq_true rfl, Nat.le_of_ble_eq_true rfl⟩ dL_law_255 ⟨Z.2.2.2.2.2.1, Z.2.2.2.2.2.2⟩ (fun H locs hP hS => ?_)
  refine lv_icmp_eq (tgt := 1228) hx hb dL_law_258 rfl (fun _ => ?_) (fun hc => absurd rfl hc)
  exact kk _ _ H locs hI2 hP hS
set_option maxHeartbeats 4000000 in
theorem lcase_3 {p : Program} {e : Env} {s : State} {m : MethodId} {args : Array Value} {below : List Frame} {meth : Method} {c : Code} {l : Launch} {g : GG} {b L : Nat} {xs : Nat → Int32} {cells slots : Nat} {Q : State → Prop} {H : Heap} {locs : List Loc} {ls : Array Slot} {mc mm : Mem} {j : Nat} (Inv : Mem → Mem → Prop) (hs : LS_3 Inv) (Z : LZ p s m args meth c l g b L xs cells slots) (hI : Inv mc mm) (hj : j + 6 ≤ L) (hl : lv_has ls 4 [(0, .ref b), (1, .ref (g.1 0)), (2, .ref (g.1 108)), (3, .int (nI j))]) (hP : va_P g.2.2.1 vwCl (wL g mc mm) H) (hS : va_S (AA g s.heap.size) s.heap H locs) (kk : ∀ (mc mm : Mem) (H : Heap) (locs : List Loc), Inv mc mm → va_P g.2.2.1 vwCl (wL g mc mm) H → va_S (AA g s.heap.size) s.heap H locs → W p l e room_1 s m args below meth c H locs cells slots Q (F0 m 1228 ls [])) : W p l e room_1 s m args below meth c H locs cells slots Q (F0 m 263 ls []) := by
  have hx := Z.1.1.1
  have hb := Z.1.1.2.1
  obtain ⟨r, mm1, h9, h10, hI2⟩ := hs mc mm hI (xs (nI j + nI 1).toNatClampNeg)
  refine lv_aload_n hx hb dL_law_263 rfl (lv_at hl 1 rfl) ?_
  refine lv_aload_n hx hb dL_law_264 rfl (lv_at hl 0 rfl) ?_
  refine lv_iload_n hx hb dL_law_265 rfl (lv_at hl 3 rfl) ?_
  refine lv_iconst (v := nI 1) hx hb dL_law_266 (by decide) ?_
  refine lv_iadd hx hb dL_law_267 ?_
  refine va_sld hx hb Z.2.1 Z.2.2.1 Z.2.2.2.1 hS (law_in hj Z.2.2.2.2.1 (by decide)) dL_law_268 ?_
  refine x_LI (rest := []) Z.1 hP hS (kX9_fault l g _ mc mm _ h9) (isO_w ck_0) (ci := 9) (by decide) rfl rfl mf_X9_fault mv_X9_fault wd_14_3 rfl rfl hl.1 (Nat.le_of_ble_eq_true rfl) ⟨Nat.le_of_ble_eq_true rfl, Nat.le_of_ble_eq_true rfl⟩ dL_law_269 ⟨Z.2.2.2.2.2.1, Z.2.2.2.2.2.2⟩ (fun H locs hP hS => ?_)
  refine lv_aload_n hx hb dL_law_272 rfl (lv_at hl 2 rfl) ?_
  refine lv_aload_n hx hb dL_law_273 rfl (lv_at hl 0 rfl) ?_
  refine lv_iload_n hx hb dL_law_274 rfl (lv_at hl 3 rfl) ?_
  refine lv_iconst (v := nI 1) hx hb dL_law_275 (by decide) ?_
  refine lv_iadd hx hb dL_law_276 ?_
  refine va_sld hx hb Z.2.1 Z.2.2.1 Z.2.2.2.1 hS (law_in hj Z.2.2.2.2.1 (by decide)) dL_law_277 ?_
  refine x_LI (rest := [.int r]) Z.1 hP hS (kX10_fault l g _ mc mm _ h10) (mO) (ci := 10) (by decide) rfl rfl mf_X10_fault mv_X10_fault wd_14_7 rfl rfl hl.1 (Nat.le_of_ble_eq_true rfl) ⟨Nat.le_of_ble_eq_true rfl, Nat.le_of_ble_eq_true rfl⟩ dL_law_278 ⟨Z.2.2.2.2.2.1, Z.2.2.2.2.2.2⟩ (fun H locs hP hS => ?_)
  refine lv_icmp_eq (tgt := 1228) hx hb dL_law_281 rfl (fun _ => ?_) (fun hc => absurd rfl hc)
  exact kk _ _ H locs hI2 hP hS
set_option maxHeartbeats 4000000 in
theorem lcase_4 {p : Program} {e : Env} {s : State} {m : MethodId} {args : Array Value} {below : List Frame} {meth : Method} {c : Code} {l : Launch} {g : GG} {b L : Nat} {xs : Nat → Int32} {cells slots : Nat} {Q : State → Prop} {H : Heap} {locs : List Loc} {ls : Array Slot} {mc mm : Mem} {j : Nat} (Inv : Mem → Mem → Prop) (hs : LS_4 Inv) (Z : LZ p s m args meth c l g b L xs cells slots) (hI : Inv mc mm) (hj : j + 6 ≤ L) (hl : lv_has ls 4 [(0, .ref b), (1, .ref (g.1 0)), (2, .ref (g.1 108)), (3, .int (nI j))]) (hP : va_P g.2.2.1 vwCl (wL g mc mm) H) (hS : va_S (AA g s.heap.size) s.heap H locs) (kk : ∀ (mc mm : Mem) (H : Heap) (locs : List Loc), Inv mc mm → va_P g.2.2.1 vwCl (wL g mc mm) H → va_S (AA g s.heap.size) s.heap H locs → W p l e room_1 s m args below meth c H locs cells slots Q (F0 m 1228 ls [])) : W p l e room_1 s m args below meth c H locs cells slots Q (F0 m 286 ls []) := by
  have hx := Z.1.1.1
  have hb := Z.1.1.2.1
  obtain ⟨r, mm1, h9, h10, hI2⟩ := hs mc mm hI (xs (nI j + nI 1).toNatClampNeg) (xs (nI j + nI 2).toNatClampNeg)
  refine lv_aload_n hx hb dL_law_286 rfl (lv_at hl 1 rfl) ?_
  refine lv_aload_n hx hb dL_law_287 rfl (lv_at hl 0 rfl) ?_
  refine lv_iload_n hx hb dL_law_288 rfl (lv_at hl 3 rfl) ?_
  refine lv_iconst (v := nI 1) hx hb dL_law_289 (by decide) ?_
  refine lv_iadd hx hb dL_law_290 ?_
  refine va_sld hx hb Z.2.1 Z.2.2.1 Z.2.2.2.1 hS (law_in hj Z.2.2.2.2.1 (by decide)) dL_law_291 ?_
  refine lv_aload_n hx hb dL_law_292 rfl (lv_at hl 0 rfl) ?_
  refine lv_iload_n hx hb dL_law_293 rfl (lv_at hl 3 rfl) ?_
  refine lv_iconst (v := nI 2) hx hb dL_law_294 (by decide) ?_
  refine lv_iadd hx hb dL_law_295 ?_
  refine va_sld hx hb Z.2.1 Z.2.2.1 Z.2.2.2.1 hS (law_in hj Z.2.2.2.2.1 (by decide)) dL_law_296 ?_
  refine x_LI (rest := []) Z.1 hP hS (kX9_well l g _ _ mc mm _ h9) (isO_w ck_0) (ci := 9) (by decide) rfl rfl mf_X9_well mv_X9_well wd_15_13 rfl rfl hl.1 (Nat.le_of_ble_eq_true rfl) ⟨Nat.le_of_ble_eq_true rfl, Nat.le_of_ble_eq_true rfl⟩ dL_law_297 ⟨Z.2.2.2.2.2.1, Z.2.2.2.2.2.2⟩ (fun H locs hP hS => ?_)
  refine lv_aload_n hx hb dL_law_300 rfl (lv_at hl 2 rfl) ?_
  refine lv_aload_n hx hb dL_law_301 rfl (lv_at hl 0 rfl) ?_
  refine lv_iload_n hx hb dL_law_302 rfl (lv_at hl 3 rfl) ?_
  refine lv_iconst (v := nI 1) hx hb dL_law_303 (by decide) ?_
  refine lv_iadd hx hb dL_law_304 ?_
  refine va_sld hx hb Z.2.1 Z.2.2.1 Z.2.2.2.1 hS (law_in hj Z.2.2.2.2.1 (by decide)) dL_law_305 ?_
  refine lv_aload_n hx hb dL_law_306 rfl (lv_at hl 0 rfl) ?_
  refine lv_iload_n hx hb dL_law_307 rfl (lv_at hl 3 rfl) ?_
  refine lv_iconst (v := nI 2) hx hb dL_law_308 (by decide) ?_
  refine lv_iadd hx hb dL_law_309 ?_
  refine va_sld hx hb Z.2.1 Z.2.2.1 Z.2.2.2.1 hS (law_in hj Z.2.2.2.2.1 (by decide)) dL_law_310 ?_
  refine x_LI (rest := [.int r]) Z.1 hP hS (kX10_well l g _ _ mc mm _ h10) (mO) (ci := 10) (by decide) rfl rfl mf_X10_well mv_X10_well wd_15_17 rfl rfl hl.1 (Nat.le_of_ble_eq_true rfl) ⟨Nat.le_of_ble_eq_true rfl, Nat.le_of_ble_eq_true rfl⟩ dL_law_311 ⟨Z.2.2.2.2.2.1, Z.2.2.2.2.2.2⟩ (fun H locs hP hS => ?_)
  refine lv_icmp_eq (tgt := 1228) hx hb dL_law_314 rfl (fun _ => ?_) (fun hc => absurd rfl hc)
  exact kk _ _ H locs hI2 hP hS
set_option maxHeartbeats 4000000 in
theorem lcase_5 {p : Program} {e : Env} {s : State} {m : MethodId} {args : Array Value} {below : List Frame} {meth : Method} {c : Code} {l : Launch} {g : GG} {b L : Nat} {xs : Nat → Int32} {cells slots : Nat} {Q : State → Prop} {H : Heap} {locs : List Loc} {ls : Array Slot} {mc mm : Mem} {j : Nat} (Inv : Mem → Mem → Prop) (hs : LS_5 Inv) (Z : LZ p s m args meth c l g b L xs cells slots) (hI : Inv mc mm) (hj : j + 6 ≤ L) (hl : lv_has ls 4 [(0, .ref b), (1, .ref (g.1 0)), (2, .ref (g.1 108)), (3, .int (nI j))]) (hP : va_P g.2.2.1 vwCl (wL g mc mm) H) (hS : va_S (AA g s.heap.size) s.heap H locs) (kk : ∀ (mc mm : Mem) (H : Heap) (locs : List Loc), Inv mc mm → va_P g.2.2.1 vwCl (wL g mc mm) H → va_S (AA g s.heap.size) s.heap H locs → W p l e room_1 s m args below meth c H locs cells slots Q (F0 m 1228 ls [])) : W p l e room_1 s m args below meth c H locs cells slots Q (F0 m 319 ls []) := by
  have hx := Z.1.1.1
  have hb := Z.1.1.2.1
  obtain ⟨r, mm1, h9, h10, hI2⟩ := hs mc mm hI (xs (nI j + nI 1).toNatClampNeg) (xs (nI j + nI 2).toNatClampNeg)
  refine lv_aload_n hx hb dL_law_319 rfl (lv_at hl 1 rfl) ?_
  refine lv_aload_n hx hb dL_law_320 rfl (lv_at hl 0 rfl) ?_
  refine lv_iload_n hx hb dL_law_321 rfl (lv_at hl 3 rfl) ?_
  refine lv_iconst (v := nI 1) hx hb dL_law_322 (by decide) ?_
  refine lv_iadd hx hb dL_law_323 ?_
  refine va_sld hx hb Z.2.1 Z.2.2.1 Z.2.2.2.1 hS (law_in hj Z.2.2.2.2.1 (by decide)) dL_law_324 ?_
  refine lv_aload_n hx hb dL_law_325 rfl (lv_at hl 0 rfl) ?_
  refine lv_iload_n hx hb dL_law_326 rfl (lv_at hl 3 rfl) ?_
  refine lv_iconst (v := nI 2) hx hb dL_law_327 (by decide) ?_
  refine lv_iadd hx hb dL_law_328 ?_
  refine va_sld hx hb Z.2.1 Z.2.2.1 Z.2.2.2.1 hS (law_in hj Z.2.2.2.2.1 (by decide)) dL_law_329 ?_
  refine x_LI (rest := []) Z.1 hP hS (kX9_saying l g _ _ mc mm _ h9) (isO_w ck_0) (ci := 9) (by decide) rfl rfl mf_X9_saying mv_X9_saying wd_16_14 rfl rfl hl.1 (Nat.le_of_ble_eq_true rfl) ⟨Nat.le_of_ble_eq_true rfl, Nat.le_of_ble_eq_true rfl⟩ dL_law_330 ⟨Z.2.2.2.2.2.1, Z.2.2.2.2.2.2⟩ (fun H locs hP hS => ?_)
  refine lv_aload_n hx hb dL_law_333 rfl (lv_at hl 2 rfl) ?_
  refine lv_aload_n hx hb dL_law_334 rfl (lv_at hl 0 rfl) ?_
  refine lv_iload_n hx hb dL_law_335 rfl (lv_at hl 3 rfl) ?_
  refine lv_iconst (v := nI 1) hx hb dL_law_336 (by decide) ?_
  refine lv_iadd hx hb dL_law_337 ?_
  refine va_sld hx hb Z.2.1 Z.2.2.1 Z.2.2.2.1 hS (law_in hj Z.2.2.2.2.1 (by decide)) dL_law_338 ?_
  refine lv_aload_n hx hb dL_law_339 rfl (lv_at hl 0 rfl) ?_
  refine lv_iload_n hx hb dL_law_340 rfl (lv_at hl 3 rfl) ?_
  refine lv_iconst (v := nI 2) hx hb dL_law_341 (by decide) ?_
  refine lv_iadd hx hb dL_law_342 ?_
  refine va_sld hx hb Z.2.1 Z.2.2.1 Z.2.2.2.1 hS (law_in hj Z.2.2.2.2.1 (by decide)) dL_law_343 ?_
  refine x_LI (rest := [.int r]) Z.1 hP hS (kX10_saying l g _ _ mc mm _ h10) (mO) (ci := 10) (by decide) rfl rfl mf_X10_saying mv_X10_saying wd_16_22 rfl rfl hl.1 (Nat.le_of_ble_eq_true rfl) ⟨Nat.le_of_ble_eq_true rfl, Nat.le_of_ble_eq_true rfl⟩ dL_law_344 ⟨Z.2.2.2.2.2.1, Z.2.2.2.2.2.2⟩ (fun H locs hP hS => ?_)
  refine lv_icmp_eq (tgt := 1228) hx hb dL_law_347 rfl (fun _ => ?_) (fun hc => absurd rfl hc)
  exact kk _ _ H locs hI2 hP hS
set_option maxHeartbeats 4000000 in
theorem lcase_6 {p : Program} {e : Env} {s : State} {m : MethodId} {args : Array Value} {below : List Frame} {meth : Method} {c : Code} {l : Launch} {g : GG} {b L : Nat} {xs : Nat → Int32} {cells slots : Nat} {Q : State → Prop} {H : Heap} {locs : List Loc} {ls : Array Slot} {mc mm : Mem} {j : Nat} (Inv : Mem → Mem → Prop) (hs : LS_6 Inv) (Z : LZ p s m args meth c l g b L xs cells slots) (hI : Inv mc mm) (hj : j + 6 ≤ L) (hl : lv_has ls 4 [(0, .ref b), (1, .ref (g.1 0)), (2, .ref (g.1 108)), (3, .int (nI j))]) (hP : va_P g.2.2.1 vwCl (wL g mc mm) H) (hS : va_S (AA g s.heap.size) s.heap H locs) (kk : ∀ (mc mm : Mem) (H : Heap) (locs : List Loc), Inv mc mm → va_P g.2.2.1 vwCl (wL g mc mm) H → va_S (AA g s.heap.size) s.heap H locs → W p l e room_1 s m args below meth c H locs cells slots Q (F0 m 1228 ls [])) : W p l e room_1 s m args below meth c H locs cells slots Q (F0 m 352 ls []) := by
  have hx := Z.1.1.1
  have hb := Z.1.1.2.1
  obtain ⟨r, mc1, mm1, h9, h10, hI2⟩ := hs mc mm hI (xs (nI j + nI 1).toNatClampNeg) (xs (nI j + nI 2).toNatClampNeg) (xs (nI j + nI 3).toNatClampNeg)
  refine lv_aload_n hx hb dL_law_352 rfl (lv_at hl 1 rfl) ?_
  refine lv_aload_n hx hb dL_law_353 rfl (lv_at hl 0 rfl) ?_
  refine lv_iload_n hx hb dL_law_354 rfl (lv_at hl 3 rfl) ?_
  refine lv_iconst (v := nI 1) hx hb dL_law_355 (by decide) ?_
  refine lv_iadd hx hb dL_law_356 ?_
  refine va_sld hx hb Z.2.1 Z.2.2.1 Z.2.2.2.1 hS (law_in hj Z.2.2.2.2.1 (by decide)) dL_law_357 ?_
  refine lv_aload_n hx hb dL_law_358 rfl (lv_at hl 0 rfl) ?_
  refine lv_iload_n hx hb dL_law_359 rfl (lv_at hl 3 rfl) ?_
  refine lv_iconst (v := nI 2) hx hb dL_law_360 (by decide) ?_
  refine lv_iadd hx hb dL_law_361 ?_
  refine va_sld hx hb Z.2.1 Z.2.2.1 Z.2.2.2.1 hS (law_in hj Z.2.2.2.2.1 (by decide)) dL_law_362 ?_
  refine lv_aload_n hx hb dL_law_363 rfl (lv_at hl 0 rfl) ?_
  refine lv_iload_n hx hb dL_law_364 rfl (lv_at hl 3 rfl) ?_
  refine lv_iconst (v := nI 3) hx hb dL_law_365 (by decide) ?_
  refine lv_iadd hx hb dL_law_366 ?_
  refine va_sld hx hb Z.2.1 Z.2.2.1 Z.2.2.2.1 hS (law_in hj Z.2.2.2.2.1 (by decide)) dL_law_367 ?_
  refine x_LI (rest := []) Z.1 hP hS (kX9_event l g _ _ _ mc mm _ h9) (isO_w ck_0) (ci := 9) (by decide) rfl rfl mf_X9_event mv_X9_event wd_17_11 rfl rfl hl.1 (Nat.le_of_ble_eq_true rfl) ⟨Nat.le_of_ble_eq_true rfl, Nat.le_of_ble_eq_true rfl⟩ dL_law_368 ⟨Z.2.2.2.2.2.1, Z.2.2.2.2.2.2⟩ (fun H locs hP hS => ?_)
  refine lv_aload_n hx hb dL_law_371 rfl (lv_at hl 2 rfl) ?_
  refine lv_aload_n hx hb dL_law_372 rfl (lv_at hl 0 rfl) ?_
  refine lv_iload_n hx hb dL_law_373 rfl (lv_at hl 3 rfl) ?_
  refine lv_iconst (v := nI 1) hx hb dL_law_374 (by decide) ?_
  refine lv_iadd hx hb dL_law_375 ?_
  refine va_sld hx hb Z.2.1 Z.2.2.1 Z.2.2.2.1 hS (law_in hj Z.2.2.2.2.1 (by decide)) dL_law_376 ?_
  refine lv_aload_n hx hb dL_law_377 rfl (lv_at hl 0 rfl) ?_
  refine lv_iload_n hx hb dL_law_378 rfl (lv_at hl 3 rfl) ?_
  refine lv_iconst (v := nI 2) hx hb dL_law_379 (by decide) ?_
  refine lv_iadd hx hb dL_law_380 ?_
  refine va_sld hx hb Z.2.1 Z.2.2.1 Z.2.2.2.1 hS (law_in hj Z.2.2.2.2.1 (by decide)) dL_law_381 ?_
  refine lv_aload_n hx hb dL_law_382 rfl (lv_at hl 0 rfl) ?_
  refine lv_iload_n hx hb dL_law_383 rfl (lv_at hl 3 rfl) ?_
  refine lv_iconst (v := nI 3) hx hb dL_law_384 (by decide) ?_
  refine lv_iadd hx hb dL_law_385 ?_
  refine va_sld hx hb Z.2.1 Z.2.2.1 Z.2.2.2.1 hS (law_in hj Z.2.2.2.2.1 (by decide)) dL_law_386 ?_
  refine x_LI (rest := [.int r]) Z.1 hP hS (kX10_event l g _ _ _ mc1 mm _ h10) (mO) (ci := 10) (by decide) rfl rfl mf_X10_event mv_X10_event wd_17_23 rfl rfl hl.1 (Nat.le_of_ble_eq_true rfl) ⟨Nat.le_of_ble_eq_true rfl, Nat.le_of_ble_eq_true rfl⟩ dL_law_387 ⟨Z.2.2.2.2.2.1, Z.2.2.2.2.2.2⟩ (fun H locs hP hS => ?_)
  refine lv_icmp_eq (tgt := 1228) hx hb dL_law_390 rfl (fun _ => ?_) (fun hc => absurd rfl hc)
  exact kk _ _ H locs hI2 hP hS
set_option maxHeartbeats 4000000 in
theorem lcase_7 {p : Program} {e : Env} {s : State} {m : MethodId} {args : Array Value} {below : List Frame} {meth : Method} {c : Code} {l : Launch} {g : GG} {b L : Nat} {xs : Nat → Int32} {cells slots : Nat} {Q : State → Prop} {H : Heap} {locs : List Loc} {ls : Array Slot} {mc mm : Mem} {j : Nat} (Inv : Mem → Mem → Prop) (hs : LS_7 Inv) (Z : LZ p s m args meth c l g b L xs cells slots) (hI : Inv mc mm) (hj : j + 6 ≤ L) (hl : lv_has ls 4 [(0, .ref b), (1, .ref (g.1 0)), (2, .ref (g.1 108)), (3, .int (nI j))]) (hP : va_P g.2.2.1 vwCl (wL g mc mm) H) (hS : va_S (AA g s.heap.size) s.heap H locs) (kk : ∀ (mc mm : Mem) (H : Heap) (locs : List Loc), Inv mc mm → va_P g.2.2.1 vwCl (wL g mc mm) H → va_S (AA g s.heap.size) s.heap H locs → W p l e room_1 s m args below meth c H locs cells slots Q (F0 m 1228 ls [])) : W p l e room_1 s m args below meth c H locs cells slots Q (F0 m 395 ls []) := by
  have hx := Z.1.1.1
  have hb := Z.1.1.2.1
  obtain ⟨r, mc1, mm1, h9, h10, hI2⟩ := hs mc mm hI
  refine lv_aload_n hx hb dL_law_395 rfl (lv_at hl 1 rfl) ?_
  refine x_LI (rest := []) Z.1 hP hS (kX9_back l g mc mm _ h9) (isO_w ck_0) (ci := 9) (by decide) rfl rfl mf_X9_back mv_X9_back wd_18_16 rfl rfl hl.1 (Nat.le_of_ble_eq_true rfl) ⟨Nat.le_of_ble_eq_true rfl, Nat.le_of_ble_eq_true rfl⟩ dL_law_396 ⟨Z.2.2.2.2.2.1, Z.2.2.2.2.2.2⟩ (fun H locs hP hS => ?_)
  refine lv_aload_n hx hb dL_law_399 rfl (lv_at hl 2 rfl) ?_
  refine x_LI (rest := [.int r]) Z.1 hP hS (kX10_back l g mc1 mm _ h10) (mO) (ci := 10) (by decide) rfl rfl mf_X10_back mv_X10_back wd_18_20 rfl rfl hl.1 (Nat.le_of_ble_eq_true rfl) ⟨Nat.le_of_ble_eq_true rfl, Nat.le_of_ble_eq_true rfl⟩ dL_law_400 ⟨Z.2.2.2.2.2.1, Z.2.2.2.2.2.2⟩ (fun H locs hP hS => ?_)
  refine lv_icmp_eq (tgt := 1228) hx hb dL_law_403 rfl (fun _ => ?_) (fun hc => absurd rfl hc)
  exact kk _ _ H locs hI2 hP hS
set_option maxHeartbeats 4000000 in
theorem lcase_8 {p : Program} {e : Env} {s : State} {m : MethodId} {args : Array Value} {below : List Frame} {meth : Method} {c : Code} {l : Launch} {g : GG} {b L : Nat} {xs : Nat → Int32} {cells slots : Nat} {Q : State → Prop} {H : Heap} {locs : List Loc} {ls : Array Slot} {mc mm : Mem} {j : Nat} (Inv : Mem → Mem → Prop) (hs : LS_8 Inv) (Z : LZ p s m args meth c l g b L xs cells slots) (hI : Inv mc mm) (hj : j + 6 ≤ L) (hl : lv_has ls 4 [(0, .ref b), (1, .ref (g.1 0)), (2, .ref (g.1 108)), (3, .int (nI j))]) (hP : va_P g.2.2.1 vwCl (wL g mc mm) H) (hS : va_S (AA g s.heap.size) s.heap H locs) (kk : ∀ (mc mm : Mem) (H : Heap) (locs : List Loc), Inv mc mm → va_P g.2.2.1 vwCl (wL g mc mm) H → va_S (AA g s.heap.size) s.heap H locs → W p l e room_1 s m args below meth c H locs cells slots Q (F0 m 1228 ls [])) : W p l e room_1 s m args below meth c H locs cells slots Q (F0 m 408 ls []) := by
  have hx := Z.1.1.1
  have hb := Z.1.1.2.1
  obtain ⟨r, mc1, mm1, h9, h10, hI2⟩ := hs mc mm hI (xs (nI j + nI 1).toNatClampNeg)
  refine lv_aload_n hx hb dL_law_408 rfl (lv_at hl 1 rfl) ?_
  refine lv_aload_n hx hb dL_law_409 rfl (lv_at hl 0 rfl) ?_
  refine lv_iload_n hx hb dL_law_410 rfl (lv_at hl 3 rfl) ?_
  refine lv_iconst (v := nI 1) hx hb dL_law_411 (by decide) ?_
  refine lv_iadd hx hb dL_law_412 ?_
  refine va_sld hx hb Z.2.1 Z.2.2.1 Z.2.2.2.1 hS (law_in hj Z.2.2.2.2.1 (by decide)) dL_law_413 ?_
  refine x_LI (rest := []) Z.1 hP hS (kX9_read l g _ mc mm _ h9) (isO_w ck_0) (ci := 9) (by decide) rfl rfl mf_X9_read mv_X9_read wd_19_0 rfl rfl hl.1 (Nat.le_of_ble_eq_true rfl) ⟨Nat.le_of_ble_eq_true rfl, Nat.le_of_ble_eq_true rfl⟩ dL_law_414 ⟨Z.2.2.2.2.2.1, Z.2.2.2.2.2.2⟩ (fun H locs hP hS => ?_)
  refine lv_aload_n hx hb dL_law_417 rfl (lv_at hl 2 rfl) ?_
  refine lv_aload_n hx hb dL_law_418 rfl (lv_at hl 0 rfl) ?_
  refine lv_iload_n hx hb dL_law_419 rfl (lv_at hl 3 rfl) ?_
  refine lv_iconst (v := nI 1) hx hb dL_law_420 (by decide) ?_
  refine lv_iadd hx hb dL_law_421 ?_
  refine va_sld hx hb Z.2.1 Z.2.2.1 Z.2.2.2.1 hS (law_in hj Z.2.2.2.2.1 (by decide)) dL_law_422 ?_
  refine x_LI (rest := [.int r]) Z.1 hP hS (kX10_read l g _ mc1 mm _ h10) (mO) (ci := 10) (by decide) rfl rfl mf_X10_read mv_X10_read wd_19_17 rfl rfl hl.1 (Nat.le_of_ble_eq_true rfl) ⟨Nat.le_of_ble_eq_true rfl, Nat.le_of_ble_eq_true rfl⟩ dL_law_423 ⟨Z.2.2.2.2.2.1, Z.2.2.2.2.2.2⟩ (fun H locs hP hS => ?_)
  refine lv_icmp_eq (tgt := 1228) hx hb dL_law_426 rfl (fun _ => ?_) (fun hc => absurd rfl hc)
  exact kk _ _ H locs hI2 hP hS
set_option maxHeartbeats 4000000 in
theorem lcase_9 {p : Program} {e : Env} {s : State} {m : MethodId} {args : Array Value} {below : List Frame} {meth : Method} {c : Code} {l : Launch} {g : GG} {b L : Nat} {xs : Nat → Int32} {cells slots : Nat} {Q : State → Prop} {H : Heap} {locs : List Loc} {ls : Array Slot} {mc mm : Mem} {j : Nat} (Inv : Mem → Mem → Prop) (hs : LS_9 Inv) (Z : LZ p s m args meth c l g b L xs cells slots) (hI : Inv mc mm) (hj : j + 6 ≤ L) (hl : lv_has ls 4 [(0, .ref b), (1, .ref (g.1 0)), (2, .ref (g.1 108)), (3, .int (nI j))]) (hP : va_P g.2.2.1 vwCl (wL g mc mm) H) (hS : va_S (AA g s.heap.size) s.heap H locs) (kk : ∀ (mc mm : Mem) (H : Heap) (locs : List Loc), Inv mc mm → va_P g.2.2.1 vwCl (wL g mc mm) H → va_S (AA g s.heap.size) s.heap H locs → W p l e room_1 s m args below meth c H locs cells slots Q (F0 m 1228 ls [])) : W p l e room_1 s m args below meth c H locs cells slots Q (F0 m 431 ls []) := by
  have hx := Z.1.1.1
  have hb := Z.1.1.2.1
  obtain ⟨r, mc1, mm1, h9, h10, hI2⟩ := hs mc mm hI (xs (nI j + nI 1).toNatClampNeg) (xs (nI j + nI 2).toNatClampNeg) (xs (nI j + nI 3).toNatClampNeg)
  refine lv_aload_n hx hb dL_law_431 rfl (lv_at hl 1 rfl) ?_
  refine lv_aload_n hx hb dL_law_432 rfl (lv_at hl 0 rfl) ?_
  refine lv_iload_n hx hb dL_law_433 rfl (lv_at hl 3 rfl) ?_
  refine lv_iconst (v := nI 1) hx hb dL_law_434 (by decide) ?_
  refine lv_iadd hx hb dL_law_435 ?_
  refine va_sld hx hb Z.2.1 Z.2.2.1 Z.2.2.2.1 hS (law_in hj Z.2.2.2.2.1 (by decide)) dL_law_436 ?_
  refine lv_aload_n hx hb dL_law_437 rfl (lv_at hl 0 rfl) ?_
  refine lv_iload_n hx hb dL_law_438 rfl (lv_at hl 3 rfl) ?_
  refine lv_iconst (v := nI 2) hx hb dL_law_439 (by decide) ?_
  refine lv_iadd hx hb dL_law_440 ?_
  refine va_sld hx hb Z.2.1 Z.2.2.1 Z.2.2.2.1 hS (law_in hj Z.2.2.2.2.1 (by decide)) dL_law_441 ?_
  refine lv_aload_n hx hb dL_law_442 rfl (lv_at hl 0 rfl) ?_
  refine lv_iload_n hx hb dL_law_443 rfl (lv_at hl 3 rfl) ?_
  refine lv_iconst (v := nI 3) hx hb dL_law_444 (by decide) ?_
  refine lv_iadd hx hb dL_law_445 ?_
  refine va_sld hx hb Z.2.1 Z.2.2.1 Z.2.2.2.1 hS (law_in hj Z.2.2.2.2.1 (by decide)) dL_law_446 ?_
  refine x_LI (rest := []) Z.1 hP hS (kX9_at l g _ _ _ mc mm _ h9) (isO_w ck_0) (ci := 9) (by decide) rfl rfl mf_X9_at mv_X9_at wd_20_6 rfl rfl hl.1 (Nat.le_of_ble_eq_true rfl) ⟨Nat.le_of_ble_eq_true rfl, Nat.le_of_ble_eq_true rfl⟩ dL_law_447 ⟨Z.2.2.2.2.2.1, Z.2.2.2.2.2.2⟩ (fun H locs hP hS => ?_)
  refine lv_aload_n hx hb dL_law_450 rfl (lv_at hl 2 rfl) ?_
  refine lv_aload_n hx hb dL_law_451 rfl (lv_at hl 0 rfl) ?_
  refine lv_iload_n hx hb dL_law_452 rfl (lv_at hl 3 rfl) ?_
  refine lv_iconst (v := nI 1) hx hb dL_law_453 (by decide) ?_
  refine lv_iadd hx hb dL_law_454 ?_
  refine va_sld hx hb Z.2.1 Z.2.2.1 Z.2.2.2.1 hS (law_in hj Z.2.2.2.2.1 (by decide)) dL_law_455 ?_
  refine lv_aload_n hx hb dL_law_456 rfl (lv_at hl 0 rfl) ?_
  refine lv_iload_n hx hb dL_law_457 rfl (lv_at hl 3 rfl) ?_
  refine lv_iconst (v := nI 2) hx hb dL_law_458 (by decide) ?_
  refine lv_iadd hx hb dL_law_459 ?_
  refine va_sld hx hb Z.2.1 Z.2.2.1 Z.2.2.2.1 hS (law_in hj Z.2.2.2.2.1 (by decide)) dL_law_460 ?_
  refine lv_aload_n hx hb dL_law_461 rfl (lv_at hl 0 rfl) ?_
  refine lv_iload_n hx hb dL_law_462 rfl (lv_at hl 3 rfl) ?_
  refine lv_iconst (v := nI 3) hx hb dL_law_463 (by decide) ?_
  refine lv_iadd hx hb dL_law_464 ?_
  refine va_sld hx hb Z.2.1 Z.2.2.1 Z.2.2.2.1 hS (law_in hj Z.2.2.2.2.1 (by decide)) dL_law_465 ?_
  refine x_LI (rest := [.int r]) Z.1 hP hS (kX10_at l g _ _ _ mc1 mm _ h10) (mO) (ci := 10) (by decide) rfl rfl mf_X10_at mv_X10_at wd_22_0 rfl rfl hl.1 (Nat.le_of_ble_eq_true rfl) ⟨Nat.le_of_ble_eq_true rfl, Nat.le_of_ble_eq_true rfl⟩ dL_law_466 ⟨Z.2.2.2.2.2.1, Z.2.2.2.2.2.2⟩ (fun H locs hP hS => ?_)
  refine lv_icmp_eq (tgt := 1228) hx hb dL_law_469 rfl (fun _ => ?_) (fun hc => absurd rfl hc)
  exact kk _ _ H locs hI2 hP hS
set_option maxHeartbeats 4000000 in
theorem lcase_10 {p : Program} {e : Env} {s : State} {m : MethodId} {args : Array Value} {below : List Frame} {meth : Method} {c : Code} {l : Launch} {g : GG} {b L : Nat} {xs : Nat → Int32} {cells slots : Nat} {Q : State → Prop} {H : Heap} {locs : List Loc} {ls : Array Slot} {mc mm : Mem} {j : Nat} (Inv : Mem → Mem → Prop) (hs : LS_10 Inv) (Z : LZ p s m args meth c l g b L xs cells slots) (hI : Inv mc mm) (hj : j + 6 ≤ L) (hl : lv_has ls 4 [(0, .ref b), (1, .ref (g.1 0)), (2, .ref (g.1 108)), (3, .int (nI j))]) (hP : va_P g.2.2.1 vwCl (wL g mc mm) H) (hS : va_S (AA g s.heap.size) s.heap H locs) (kk : ∀ (mc mm : Mem) (H : Heap) (locs : List Loc), Inv mc mm → va_P g.2.2.1 vwCl (wL g mc mm) H → va_S (AA g s.heap.size) s.heap H locs → W p l e room_1 s m args below meth c H locs cells slots Q (F0 m 1228 ls [])) : W p l e room_1 s m args below meth c H locs cells slots Q (F0 m 474 ls []) := by
  have hx := Z.1.1.1
  have hb := Z.1.1.2.1
  obtain ⟨r, mc1, mm1, h9, h10, hI2⟩ := hs mc mm hI (xs (nI j + nI 1).toNatClampNeg)
  refine lv_aload_n hx hb dL_law_474 rfl (lv_at hl 1 rfl) ?_
  refine lv_aload_n hx hb dL_law_475 rfl (lv_at hl 0 rfl) ?_
  refine lv_iload_n hx hb dL_law_476 rfl (lv_at hl 3 rfl) ?_
  refine lv_iconst (v := nI 1) hx hb dL_law_477 (by decide) ?_
  refine lv_iadd hx hb dL_law_478 ?_
  refine va_sld hx hb Z.2.1 Z.2.2.1 Z.2.2.2.1 hS (law_in hj Z.2.2.2.2.1 (by decide)) dL_law_479 ?_
  refine x_LI (rest := []) Z.1 hP hS (kX9_hears l g _ mc mm _ h9) (isO_w ck_0) (ci := 9) (by decide) rfl rfl mf_X9_hears mv_X9_hears wd_24_18 rfl rfl hl.1 (Nat.le_of_ble_eq_true rfl) ⟨Nat.le_of_ble_eq_true rfl, Nat.le_of_ble_eq_true rfl⟩ dL_law_480 ⟨Z.2.2.2.2.2.1, Z.2.2.2.2.2.2⟩ (fun H locs hP hS => ?_)
  refine lv_aload_n hx hb dL_law_483 rfl (lv_at hl 2 rfl) ?_
  refine lv_aload_n hx hb dL_law_484 rfl (lv_at hl 0 rfl) ?_
  refine lv_iload_n hx hb dL_law_485 rfl (lv_at hl 3 rfl) ?_
  refine lv_iconst (v := nI 1) hx hb dL_law_486 (by decide) ?_
  refine lv_iadd hx hb dL_law_487 ?_
  refine va_sld hx hb Z.2.1 Z.2.2.1 Z.2.2.2.1 hS (law_in hj Z.2.2.2.2.1 (by decide)) dL_law_488 ?_
  refine x_LI (rest := [.int r]) Z.1 hP hS (kX10_hears l g _ mc1 mm _ h10) (mO) (ci := 10) (by decide) rfl rfl mf_X10_hears mv_X10_hears wd_25_2 rfl rfl hl.1 (Nat.le_of_ble_eq_true rfl) ⟨Nat.le_of_ble_eq_true rfl, Nat.le_of_ble_eq_true rfl⟩ dL_law_489 ⟨Z.2.2.2.2.2.1, Z.2.2.2.2.2.2⟩ (fun H locs hP hS => ?_)
  refine lv_icmp_eq (tgt := 1228) hx hb dL_law_492 rfl (fun _ => ?_) (fun hc => absurd rfl hc)
  exact kk _ _ H locs hI2 hP hS
set_option maxHeartbeats 4000000 in
theorem lcase_11 {p : Program} {e : Env} {s : State} {m : MethodId} {args : Array Value} {below : List Frame} {meth : Method} {c : Code} {l : Launch} {g : GG} {b L : Nat} {xs : Nat → Int32} {cells slots : Nat} {Q : State → Prop} {H : Heap} {locs : List Loc} {ls : Array Slot} {mc mm : Mem} {j : Nat} (Inv : Mem → Mem → Prop) (hs : LS_11 Inv) (Z : LZ p s m args meth c l g b L xs cells slots) (hI : Inv mc mm) (hj : j + 6 ≤ L) (hl : lv_has ls 4 [(0, .ref b), (1, .ref (g.1 0)), (2, .ref (g.1 108)), (3, .int (nI j))]) (hP : va_P g.2.2.1 vwCl (wL g mc mm) H) (hS : va_S (AA g s.heap.size) s.heap H locs) (kk : ∀ (mc mm : Mem) (H : Heap) (locs : List Loc), Inv mc mm → va_P g.2.2.1 vwCl (wL g mc mm) H → va_S (AA g s.heap.size) s.heap H locs → W p l e room_1 s m args below meth c H locs cells slots Q (F0 m 1228 ls [])) : W p l e room_1 s m args below meth c H locs cells slots Q (F0 m 497 ls []) := by
  have hx := Z.1.1.1
  have hb := Z.1.1.2.1
  obtain ⟨r, mc1, mm1, h9, h10, hI2⟩ := hs mc mm hI (xs (nI j + nI 1).toNatClampNeg)
  refine lv_aload_n hx hb dL_law_497 rfl (lv_at hl 1 rfl) ?_
  refine lv_aload_n hx hb dL_law_498 rfl (lv_at hl 0 rfl) ?_
  refine lv_iload_n hx hb dL_law_499 rfl (lv_at hl 3 rfl) ?_
  refine lv_iconst (v := nI 1) hx hb dL_law_500 (by decide) ?_
  refine lv_iadd hx hb dL_law_501 ?_
  refine va_sld hx hb Z.2.1 Z.2.2.1 Z.2.2.2.1 hS (law_in hj Z.2.2.2.2.1 (by decide)) dL_law_502 ?_
  refine x_LI (rest := []) Z.1 hP hS (kX9_soon l g _ mc mm _ h9) (isO_w ck_0) (ci := 9) (by decide) rfl rfl mf_X9_soon mv_X9_soon wd_25_14 rfl rfl hl.1 (Nat.le_of_ble_eq_true rfl) ⟨Nat.le_of_ble_eq_true rfl, Nat.le_of_ble_eq_true rfl⟩ dL_law_503 ⟨Z.2.2.2.2.2.1, Z.2.2.2.2.2.2⟩ (fun H locs hP hS => ?_)
  refine lv_aload_n hx hb dL_law_506 rfl (lv_at hl 2 rfl) ?_
  refine lv_aload_n hx hb dL_law_507 rfl (lv_at hl 0 rfl) ?_
  refine lv_iload_n hx hb dL_law_508 rfl (lv_at hl 3 rfl) ?_
  refine lv_iconst (v := nI 1) hx hb dL_law_509 (by decide) ?_
  refine lv_iadd hx hb dL_law_510 ?_
  refine va_sld hx hb Z.2.1 Z.2.2.1 Z.2.2.2.1 hS (law_in hj Z.2.2.2.2.1 (by decide)) dL_law_511 ?_
  refine x_LI (rest := [.int r]) Z.1 hP hS (kX10_soon l g _ mc1 mm _ h10) (mO) (ci := 10) (by decide) rfl rfl mf_X10_soon mv_X10_soon wd_25_22 rfl rfl hl.1 (Nat.le_of_ble_eq_true rfl) ⟨Nat.le_of_ble_eq_true rfl, Nat.le_of_ble_eq_true rfl⟩ dL_law_512 ⟨Z.2.2.2.2.2.1, Z.2.2.2.2.2.2⟩ (fun H locs hP hS => ?_)
  refine lv_icmp_eq (tgt := 1228) hx hb dL_law_515 rfl (fun _ => ?_) (fun hc => absurd rfl hc)
  exact kk _ _ H locs hI2 hP hS
set_option maxHeartbeats 4000000 in
theorem lcase_12 {p : Program} {e : Env} {s : State} {m : MethodId} {args : Array Value} {below : List Frame} {meth : Method} {c : Code} {l : Launch} {g : GG} {b L : Nat} {xs : Nat → Int32} {cells slots : Nat} {Q : State → Prop} {H : Heap} {locs : List Loc} {ls : Array Slot} {mc mm : Mem} {j : Nat} (Inv : Mem → Mem → Prop) (hs : LS_12 Inv) (Z : LZ p s m args meth c l g b L xs cells slots) (hI : Inv mc mm) (hj : j + 6 ≤ L) (hl : lv_has ls 4 [(0, .ref b), (1, .ref (g.1 0)), (2, .ref (g.1 108)), (3, .int (nI j))]) (hP : va_P g.2.2.1 vwCl (wL g mc mm) H) (hS : va_S (AA g s.heap.size) s.heap H locs) (kk : ∀ (mc mm : Mem) (H : Heap) (locs : List Loc), Inv mc mm → va_P g.2.2.1 vwCl (wL g mc mm) H → va_S (AA g s.heap.size) s.heap H locs → W p l e room_1 s m args below meth c H locs cells slots Q (F0 m 1228 ls [])) : W p l e room_1 s m args below meth c H locs cells slots Q (F0 m 520 ls []) := by
  have hx := Z.1.1.1
  have hb := Z.1.1.2.1
  obtain ⟨r, mc1, mm1, h9, h10, hI2⟩ := hs mc mm hI
  refine lv_aload_n hx hb dL_law_520 rfl (lv_at hl 1 rfl) ?_
  refine x_LI (rest := []) Z.1 hP hS (kX9_gone l g mc mm _ h9) (isO_w ck_0) (ci := 9) (by decide) rfl rfl mf_X9_gone mv_X9_gone wd_26_6 rfl rfl hl.1 (Nat.le_of_ble_eq_true rfl) ⟨Nat.le_of_ble_eq_true rfl, Nat.le_of_ble_eq_true rfl⟩ dL_law_521 ⟨Z.2.2.2.2.2.1, Z.2.2.2.2.2.2⟩ (fun H locs hP hS => ?_)
  refine lv_aload_n hx hb dL_law_524 rfl (lv_at hl 2 rfl) ?_
  refine x_LI (rest := [.int r]) Z.1 hP hS (kX10_gone l g mc1 mm _ h10) (mO) (ci := 10) (by decide) rfl rfl mf_X10_gone mv_X10_gone wd_26_14 rfl rfl hl.1 (Nat.le_of_ble_eq_true rfl) ⟨Nat.le_of_ble_eq_true rfl, Nat.le_of_ble_eq_true rfl⟩ dL_law_525 ⟨Z.2.2.2.2.2.1, Z.2.2.2.2.2.2⟩ (fun H locs hP hS => ?_)
  refine lv_icmp_eq (tgt := 1228) hx hb dL_law_528 rfl (fun _ => ?_) (fun hc => absurd rfl hc)
  exact kk _ _ H locs hI2 hP hS
set_option maxHeartbeats 4000000 in
theorem lcase_13 {p : Program} {e : Env} {s : State} {m : MethodId} {args : Array Value} {below : List Frame} {meth : Method} {c : Code} {l : Launch} {g : GG} {b L : Nat} {xs : Nat → Int32} {cells slots : Nat} {Q : State → Prop} {H : Heap} {locs : List Loc} {ls : Array Slot} {mc mm : Mem} {j : Nat} (Inv : Mem → Mem → Prop) (hs : LS_13 Inv) (Z : LZ p s m args meth c l g b L xs cells slots) (hI : Inv mc mm) (hj : j + 6 ≤ L) (hl : lv_has ls 4 [(0, .ref b), (1, .ref (g.1 0)), (2, .ref (g.1 108)), (3, .int (nI j))]) (hP : va_P g.2.2.1 vwCl (wL g mc mm) H) (hS : va_S (AA g s.heap.size) s.heap H locs) (kk : ∀ (mc mm : Mem) (H : Heap) (locs : List Loc), Inv mc mm → va_P g.2.2.1 vwCl (wL g mc mm) H → va_S (AA g s.heap.size) s.heap H locs → W p l e room_1 s m args below meth c H locs cells slots Q (F0 m 1228 ls [])) : W p l e room_1 s m args below meth c H locs cells slots Q (F0 m 533 ls []) := by
  have hx := Z.1.1.1
  have hb := Z.1.1.2.1
  obtain ⟨r, mc1, mm1, h9, h10, hI2⟩ := hs mc mm hI (xs (nI j + nI 1).toNatClampNeg)
  refine lv_aload_n hx hb dL_law_533 rfl (lv_at hl 1 rfl) ?_
  refine lv_aload_n hx hb dL_law_534 rfl (lv_at hl 0 rfl) ?_
  refine lv_iload_n hx hb dL_law_535 rfl (lv_at hl 3 rfl) ?_
  refine lv_iconst (v := nI 1) hx hb dL_law_536 (by decide) ?_
  refine lv_iadd hx hb dL_law_537 ?_
  refine va_sld hx hb Z.2.1 Z.2.2.1 Z.2.2.2.1 hS (law_in hj Z.2.2.2.2.1 (by decide)) dL_law_538 ?_
  refine x_LI (rest := []) Z.1 hP hS (kX9_babel l g _ mc mm _ h9) (isO_w ck_0) (ci := 9) (by decide) rfl rfl mf_X9_babel mv_X9_babel wd_26_22 rfl rfl hl.1 (Nat.le_of_ble_eq_true rfl) ⟨Nat.le_of_ble_eq_true rfl, Nat.le_of_ble_eq_true rfl⟩ dL_law_539 ⟨Z.2.2.2.2.2.1, Z.2.2.2.2.2.2⟩ (fun H locs hP hS => ?_)
  refine lv_aload_n hx hb dL_law_542 rfl (lv_at hl 2 rfl) ?_
  refine lv_aload_n hx hb dL_law_543 rfl (lv_at hl 0 rfl) ?_
  refine lv_iload_n hx hb dL_law_544 rfl (lv_at hl 3 rfl) ?_
  refine lv_iconst (v := nI 1) hx hb dL_law_545 (by decide) ?_
  refine lv_iadd hx hb dL_law_546 ?_
  refine va_sld hx hb Z.2.1 Z.2.2.1 Z.2.2.2.1 hS (law_in hj Z.2.2.2.2.1 (by decide)) dL_law_547 ?_
  refine x_LI (rest := [.int r]) Z.1 hP hS (kX10_babel l g _ mc1 mm _ h10) (mO) (ci := 10) (by decide) rfl rfl mf_X10_babel mv_X10_babel wd_27_6 rfl rfl hl.1 (Nat.le_of_ble_eq_true rfl) ⟨Nat.le_of_ble_eq_true rfl, Nat.le_of_ble_eq_true rfl⟩ dL_law_548 ⟨Z.2.2.2.2.2.1, Z.2.2.2.2.2.2⟩ (fun H locs hP hS => ?_)
  refine lv_icmp_eq (tgt := 1228) hx hb dL_law_551 rfl (fun _ => ?_) (fun hc => absurd rfl hc)
  exact kk _ _ H locs hI2 hP hS
set_option maxHeartbeats 4000000 in
theorem lcase_14 {p : Program} {e : Env} {s : State} {m : MethodId} {args : Array Value} {below : List Frame} {meth : Method} {c : Code} {l : Launch} {g : GG} {b L : Nat} {xs : Nat → Int32} {cells slots : Nat} {Q : State → Prop} {H : Heap} {locs : List Loc} {ls : Array Slot} {mc mm : Mem} {j : Nat} (Inv : Mem → Mem → Prop) (hs : LS_14 Inv) (Z : LZ p s m args meth c l g b L xs cells slots) (hI : Inv mc mm) (hj : j + 6 ≤ L) (hl : lv_has ls 4 [(0, .ref b), (1, .ref (g.1 0)), (2, .ref (g.1 108)), (3, .int (nI j))]) (hP : va_P g.2.2.1 vwCl (wL g mc mm) H) (hS : va_S (AA g s.heap.size) s.heap H locs) (kk : ∀ (mc mm : Mem) (H : Heap) (locs : List Loc), Inv mc mm → va_P g.2.2.1 vwCl (wL g mc mm) H → va_S (AA g s.heap.size) s.heap H locs → W p l e room_1 s m args below meth c H locs cells slots Q (F0 m 1228 ls [])) : W p l e room_1 s m args below meth c H locs cells slots Q (F0 m 556 ls []) := by
  have hx := Z.1.1.1
  have hb := Z.1.1.2.1
  obtain ⟨r, mc1, mm1, h9, h10, hI2⟩ := hs mc mm hI (xs (nI j + nI 1).toNatClampNeg) (xs (nI j + nI 2).toNatClampNeg) (xs (nI j + nI 3).toNatClampNeg)
  refine lv_aload_n hx hb dL_law_556 rfl (lv_at hl 1 rfl) ?_
  refine lv_aload_n hx hb dL_law_557 rfl (lv_at hl 0 rfl) ?_
  refine lv_iload_n hx hb dL_law_558 rfl (lv_at hl 3 rfl) ?_
  refine lv_iconst (v := nI 1) hx hb dL_law_559 (by decide) ?_
  refine lv_iadd hx hb dL_law_560 ?_
  refine va_sld hx hb Z.2.1 Z.2.2.1 Z.2.2.2.1 hS (law_in hj Z.2.2.2.2.1 (by decide)) dL_law_561 ?_
  refine lv_aload_n hx hb dL_law_562 rfl (lv_at hl 0 rfl) ?_
  refine lv_iload_n hx hb dL_law_563 rfl (lv_at hl 3 rfl) ?_
  refine lv_iconst (v := nI 2) hx hb dL_law_564 (by decide) ?_
  refine lv_iadd hx hb dL_law_565 ?_
  refine va_sld hx hb Z.2.1 Z.2.2.1 Z.2.2.2.1 hS (law_in hj Z.2.2.2.2.1 (by decide)) dL_law_566 ?_
  refine lv_aload_n hx hb dL_law_567 rfl (lv_at hl 0 rfl) ?_
  refine lv_iload_n hx hb dL_law_568 rfl (lv_at hl 3 rfl) ?_
  refine lv_iconst (v := nI 3) hx hb dL_law_569 (by decide) ?_
  refine lv_iadd hx hb dL_law_570 ?_
  refine va_sld hx hb Z.2.1 Z.2.2.1 Z.2.2.2.1 hS (law_in hj Z.2.2.2.2.1 (by decide)) dL_law_571 ?_
  refine x_LI (rest := []) Z.1 hP hS (kX9_tell l g _ _ _ mc mm _ h9) (isO_w ck_0) (ci := 9) (by decide) rfl rfl mf_X9_tell mv_X9_tell wd_27_14 rfl rfl hl.1 (Nat.le_of_ble_eq_true rfl) ⟨Nat.le_of_ble_eq_true rfl, Nat.le_of_ble_eq_true rfl⟩ dL_law_572 ⟨Z.2.2.2.2.2.1, Z.2.2.2.2.2.2⟩ (fun H locs hP hS => ?_)
  refine lv_aload_n hx hb dL_law_575 rfl (lv_at hl 2 rfl) ?_
  refine lv_aload_n hx hb dL_law_576 rfl (lv_at hl 0 rfl) ?_
  refine lv_iload_n hx hb dL_law_577 rfl (lv_at hl 3 rfl) ?_
  refine lv_iconst (v := nI 1) hx hb dL_law_578 (by decide) ?_
  refine lv_iadd hx hb dL_law_579 ?_
  refine va_sld hx hb Z.2.1 Z.2.2.1 Z.2.2.2.1 hS (law_in hj Z.2.2.2.2.1 (by decide)) dL_law_580 ?_
  refine lv_aload_n hx hb dL_law_581 rfl (lv_at hl 0 rfl) ?_
  refine lv_iload_n hx hb dL_law_582 rfl (lv_at hl 3 rfl) ?_
  refine lv_iconst (v := nI 2) hx hb dL_law_583 (by decide) ?_
  refine lv_iadd hx hb dL_law_584 ?_
  refine va_sld hx hb Z.2.1 Z.2.2.1 Z.2.2.2.1 hS (law_in hj Z.2.2.2.2.1 (by decide)) dL_law_585 ?_
  refine lv_aload_n hx hb dL_law_586 rfl (lv_at hl 0 rfl) ?_
  refine lv_iload_n hx hb dL_law_587 rfl (lv_at hl 3 rfl) ?_
  refine lv_iconst (v := nI 3) hx hb dL_law_588 (by decide) ?_
  refine lv_iadd hx hb dL_law_589 ?_
  refine va_sld hx hb Z.2.1 Z.2.2.1 Z.2.2.2.1 hS (law_in hj Z.2.2.2.2.1 (by decide)) dL_law_590 ?_
  refine x_LI (rest := [.int r]) Z.1 hP hS (kX10_tell l g _ _ _ mc1 mm _ h10) (mO) (ci := 10) (by decide) rfl rfl mf_X10_tell mv_X10_tell wd_27_18 rfl rfl hl.1 (Nat.le_of_ble_eq_true rfl) ⟨Nat.le_of_ble_eq_true rfl, Nat.le_of_ble_eq_true rfl⟩ dL_law_591 ⟨Z.2.2.2.2.2.1, Z.2.2.2.2.2.2⟩ (fun H locs hP hS => ?_)
  refine lv_icmp_eq (tgt := 1228) hx hb dL_law_594 rfl (fun _ => ?_) (fun hc => absurd rfl hc)
  exact kk _ _ H locs hI2 hP hS
set_option maxHeartbeats 4000000 in
theorem lcase_15 {p : Program} {e : Env} {s : State} {m : MethodId} {args : Array Value} {below : List Frame} {meth : Method} {c : Code} {l : Launch} {g : GG} {b L : Nat} {xs : Nat → Int32} {cells slots : Nat} {Q : State → Prop} {H : Heap} {locs : List Loc} {ls : Array Slot} {mc mm : Mem} {j : Nat} (Inv : Mem → Mem → Prop) (hs : LS_15 Inv) (Z : LZ p s m args meth c l g b L xs cells slots) (hI : Inv mc mm) (hj : j + 6 ≤ L) (hl : lv_has ls 4 [(0, .ref b), (1, .ref (g.1 0)), (2, .ref (g.1 108)), (3, .int (nI j))]) (hP : va_P g.2.2.1 vwCl (wL g mc mm) H) (hS : va_S (AA g s.heap.size) s.heap H locs) (kk : ∀ (mc mm : Mem) (H : Heap) (locs : List Loc), Inv mc mm → va_P g.2.2.1 vwCl (wL g mc mm) H → va_S (AA g s.heap.size) s.heap H locs → W p l e room_1 s m args below meth c H locs cells slots Q (F0 m 1228 ls [])) : W p l e room_1 s m args below meth c H locs cells slots Q (F0 m 599 ls []) := by
  have hx := Z.1.1.1
  have hb := Z.1.1.2.1
  obtain ⟨r, mc1, mm1, h9, h10, hI2⟩ := hs mc mm hI (xs (nI j + nI 1).toNatClampNeg) (xs (nI j + nI 2).toNatClampNeg)
  refine lv_aload_n hx hb dL_law_599 rfl (lv_at hl 1 rfl) ?_
  refine lv_aload_n hx hb dL_law_600 rfl (lv_at hl 0 rfl) ?_
  refine lv_iload_n hx hb dL_law_601 rfl (lv_at hl 3 rfl) ?_
  refine lv_iconst (v := nI 1) hx hb dL_law_602 (by decide) ?_
  refine lv_iadd hx hb dL_law_603 ?_
  refine va_sld hx hb Z.2.1 Z.2.2.1 Z.2.2.2.1 hS (law_in hj Z.2.2.2.2.1 (by decide)) dL_law_604 ?_
  refine lv_aload_n hx hb dL_law_605 rfl (lv_at hl 0 rfl) ?_
  refine lv_iload_n hx hb dL_law_606 rfl (lv_at hl 3 rfl) ?_
  refine lv_iconst (v := nI 2) hx hb dL_law_607 (by decide) ?_
  refine lv_iadd hx hb dL_law_608 ?_
  refine va_sld hx hb Z.2.1 Z.2.2.1 Z.2.2.2.1 hS (law_in hj Z.2.2.2.2.1 (by decide)) dL_law_609 ?_
  refine x_LI (rest := []) Z.1 hP hS (kX9_toss l g _ _ mc mm _ h9) (isO_w ck_0) (ci := 9) (by decide) rfl rfl mf_X9_toss mv_X9_toss wd_28_2 rfl rfl hl.1 (Nat.le_of_ble_eq_true rfl) ⟨Nat.le_of_ble_eq_true rfl, Nat.le_of_ble_eq_true rfl⟩ dL_law_610 ⟨Z.2.2.2.2.2.1, Z.2.2.2.2.2.2⟩ (fun H locs hP hS => ?_)
  refine lv_aload_n hx hb dL_law_613 rfl (lv_at hl 2 rfl) ?_
  refine lv_aload_n hx hb dL_law_614 rfl (lv_at hl 0 rfl) ?_
  refine lv_iload_n hx hb dL_law_615 rfl (lv_at hl 3 rfl) ?_
  refine lv_iconst (v := nI 1) hx hb dL_law_616 (by decide) ?_
  refine lv_iadd hx hb dL_law_617 ?_
  refine va_sld hx hb Z.2.1 Z.2.2.1 Z.2.2.2.1 hS (law_in hj Z.2.2.2.2.1 (by decide)) dL_law_618 ?_
  refine lv_aload_n hx hb dL_law_619 rfl (lv_at hl 0 rfl) ?_
  refine lv_iload_n hx hb dL_law_620 rfl (lv_at hl 3 rfl) ?_
  refine lv_iconst (v := nI 2) hx hb dL_law_621 (by decide) ?_
  refine lv_iadd hx hb dL_law_622 ?_
  refine va_sld hx hb Z.2.1 Z.2.2.1 Z.2.2.2.1 hS (law_in hj Z.2.2.2.2.1 (by decide)) dL_law_623 ?_
  refine x_LI (rest := [.int r]) Z.1 hP hS (kX10_toss l g _ _ mc1 mm _ h10) (mO) (ci := 10) (by decide) rfl rfl mf_X10_toss mv_X10_toss wd_29_2 rfl rfl hl.1 (Nat.le_of_ble_eq_true rfl) ⟨Nat.le_of_ble_eq_true rfl, Nat.le_of_ble_eq_true rfl⟩ dL_law_624 ⟨Z.2.2.2.2.2.1, Z.2.2.2.2.2.2⟩ (fun H locs hP hS => ?_)
  refine lv_icmp_eq (tgt := 1228) hx hb dL_law_627 rfl (fun _ => ?_) (fun hc => absurd rfl hc)
  exact kk _ _ H locs hI2 hP hS
set_option maxHeartbeats 4000000 in
theorem lcase_16 {p : Program} {e : Env} {s : State} {m : MethodId} {args : Array Value} {below : List Frame} {meth : Method} {c : Code} {l : Launch} {g : GG} {b L : Nat} {xs : Nat → Int32} {cells slots : Nat} {Q : State → Prop} {H : Heap} {locs : List Loc} {ls : Array Slot} {mc mm : Mem} {j : Nat} (Inv : Mem → Mem → Prop) (hs : LS_16 Inv) (Z : LZ p s m args meth c l g b L xs cells slots) (hI : Inv mc mm) (hj : j + 6 ≤ L) (hl : lv_has ls 4 [(0, .ref b), (1, .ref (g.1 0)), (2, .ref (g.1 108)), (3, .int (nI j))]) (hP : va_P g.2.2.1 vwCl (wL g mc mm) H) (hS : va_S (AA g s.heap.size) s.heap H locs) (kk : ∀ (mc mm : Mem) (H : Heap) (locs : List Loc), Inv mc mm → va_P g.2.2.1 vwCl (wL g mc mm) H → va_S (AA g s.heap.size) s.heap H locs → W p l e room_1 s m args below meth c H locs cells slots Q (F0 m 1228 ls [])) : W p l e room_1 s m args below meth c H locs cells slots Q (F0 m 632 ls []) := by
  have hx := Z.1.1.1
  have hb := Z.1.1.2.1
  obtain ⟨r, mc1, mm1, h9, h10, hI2⟩ := hs mc mm hI (xs (nI j + nI 1).toNatClampNeg) (xs (nI j + nI 2).toNatClampNeg)
  refine lv_aload_n hx hb dL_law_632 rfl (lv_at hl 1 rfl) ?_
  refine lv_aload_n hx hb dL_law_633 rfl (lv_at hl 0 rfl) ?_
  refine lv_iload_n hx hb dL_law_634 rfl (lv_at hl 3 rfl) ?_
  refine lv_iconst (v := nI 1) hx hb dL_law_635 (by decide) ?_
  refine lv_iadd hx hb dL_law_636 ?_
  refine va_sld hx hb Z.2.1 Z.2.2.1 Z.2.2.2.1 hS (law_in hj Z.2.2.2.2.1 (by decide)) dL_law_637 ?_
  refine lv_aload_n hx hb dL_law_638 rfl (lv_at hl 0 rfl) ?_
  refine lv_iload_n hx hb dL_law_639 rfl (lv_at hl 3 rfl) ?_
  refine lv_iconst (v := nI 2) hx hb dL_law_640 (by decide) ?_
  refine lv_iadd hx hb dL_law_641 ?_
  refine va_sld hx hb Z.2.1 Z.2.2.1 Z.2.2.2.1 hS (law_in hj Z.2.2.2.2.1 (by decide)) dL_law_642 ?_
  refine x_LI (rest := []) Z.1 hP hS (kX9_open l g _ _ mc mm _ h9) (isO_w ck_0) (ci := 9) (by decide) rfl rfl mf_X9_open mv_X9_open wd_29_16 rfl rfl hl.1 (Nat.le_of_ble_eq_true rfl) ⟨Nat.le_of_ble_eq_true rfl, Nat.le_of_ble_eq_true rfl⟩ dL_law_643 ⟨Z.2.2.2.2.2.1, Z.2.2.2.2.2.2⟩ (fun H locs hP hS => ?_)
  refine lv_aload_n hx hb dL_law_646 rfl (lv_at hl 2 rfl) ?_
  refine lv_aload_n hx hb dL_law_647 rfl (lv_at hl 0 rfl) ?_
  refine lv_iload_n hx hb dL_law_648 rfl (lv_at hl 3 rfl) ?_
  refine lv_iconst (v := nI 1) hx hb dL_law_649 (by decide) ?_
  refine lv_iadd hx hb dL_law_650 ?_
  refine va_sld hx hb Z.2.1 Z.2.2.1 Z.2.2.2.1 hS (law_in hj Z.2.2.2.2.1 (by decide)) dL_law_651 ?_
  refine lv_aload_n hx hb dL_law_652 rfl (lv_at hl 0 rfl) ?_
  refine lv_iload_n hx hb dL_law_653 rfl (lv_at hl 3 rfl) ?_
  refine lv_iconst (v := nI 2) hx hb dL_law_654 (by decide) ?_
  refine lv_iadd hx hb dL_law_655 ?_
  refine va_sld hx hb Z.2.1 Z.2.2.1 Z.2.2.2.1 hS (law_in hj Z.2.2.2.2.1 (by decide)) dL_law_656 ?_
  refine x_LI (rest := [.int r]) Z.1 hP hS (kX10_open l g _ _ mc1 mm _ h10) (mO) (ci := 10) (by decide) rfl rfl mf_X10_open mv_X10_open wd_30_8 rfl rfl hl.1 (Nat.le_of_ble_eq_true rfl) ⟨Nat.le_of_ble_eq_true rfl, Nat.le_of_ble_eq_true rfl⟩ dL_law_657 ⟨Z.2.2.2.2.2.1, Z.2.2.2.2.2.2⟩ (fun H locs hP hS => ?_)
  refine lv_icmp_eq (tgt := 1228) hx hb dL_law_660 rfl (fun _ => ?_) (fun hc => absurd rfl hc)
  exact kk _ _ H locs hI2 hP hS
set_option maxHeartbeats 4000000 in
theorem lcase_17 {p : Program} {e : Env} {s : State} {m : MethodId} {args : Array Value} {below : List Frame} {meth : Method} {c : Code} {l : Launch} {g : GG} {b L : Nat} {xs : Nat → Int32} {cells slots : Nat} {Q : State → Prop} {H : Heap} {locs : List Loc} {ls : Array Slot} {mc mm : Mem} {j : Nat} (Inv : Mem → Mem → Prop) (hs : LS_17 Inv) (Z : LZ p s m args meth c l g b L xs cells slots) (hI : Inv mc mm) (hj : j + 6 ≤ L) (hl : lv_has ls 4 [(0, .ref b), (1, .ref (g.1 0)), (2, .ref (g.1 108)), (3, .int (nI j))]) (hP : va_P g.2.2.1 vwCl (wL g mc mm) H) (hS : va_S (AA g s.heap.size) s.heap H locs) (kk : ∀ (mc mm : Mem) (H : Heap) (locs : List Loc), Inv mc mm → va_P g.2.2.1 vwCl (wL g mc mm) H → va_S (AA g s.heap.size) s.heap H locs → W p l e room_1 s m args below meth c H locs cells slots Q (F0 m 1228 ls [])) : W p l e room_1 s m args below meth c H locs cells slots Q (F0 m 665 ls []) := by
  have hx := Z.1.1.1
  have hb := Z.1.1.2.1
  obtain ⟨r, mc1, mm1, h9, h10, hI2⟩ := hs mc mm hI (xs (nI j + nI 1).toNatClampNeg)
  refine lv_aload_n hx hb dL_law_665 rfl (lv_at hl 1 rfl) ?_
  refine lv_aload_n hx hb dL_law_666 rfl (lv_at hl 0 rfl) ?_
  refine lv_iload_n hx hb dL_law_667 rfl (lv_at hl 3 rfl) ?_
  refine lv_iconst (v := nI 1) hx hb dL_law_668 (by decide) ?_
  refine lv_iadd hx hb dL_law_669 ?_
  refine va_sld hx hb Z.2.1 Z.2.2.1 Z.2.2.2.1 hS (law_in hj Z.2.2.2.2.1 (by decide)) dL_law_670 ?_
  refine x_LI (rest := []) Z.1 hP hS (kX9_iron l g _ mc mm _ h9) (isO_w ck_0) (ci := 9) (by decide) rfl rfl mf_X9_iron mv_X9_iron wd_31_1 rfl rfl hl.1 (Nat.le_of_ble_eq_true rfl) ⟨Nat.le_of_ble_eq_true rfl, Nat.le_of_ble_eq_true rfl⟩ dL_law_671 ⟨Z.2.2.2.2.2.1, Z.2.2.2.2.2.2⟩ (fun H locs hP hS => ?_)
  refine lv_aload_n hx hb dL_law_674 rfl (lv_at hl 2 rfl) ?_
  refine lv_aload_n hx hb dL_law_675 rfl (lv_at hl 0 rfl) ?_
  refine lv_iload_n hx hb dL_law_676 rfl (lv_at hl 3 rfl) ?_
  refine lv_iconst (v := nI 1) hx hb dL_law_677 (by decide) ?_
  refine lv_iadd hx hb dL_law_678 ?_
  refine va_sld hx hb Z.2.1 Z.2.2.1 Z.2.2.2.1 hS (law_in hj Z.2.2.2.2.1 (by decide)) dL_law_679 ?_
  refine x_LI (rest := [.int r]) Z.1 hP hS (kX10_iron l g _ mc1 mm _ h10) (mO) (ci := 10) (by decide) rfl rfl mf_X10_iron mv_X10_iron wd_31_13 rfl rfl hl.1 (Nat.le_of_ble_eq_true rfl) ⟨Nat.le_of_ble_eq_true rfl, Nat.le_of_ble_eq_true rfl⟩ dL_law_680 ⟨Z.2.2.2.2.2.1, Z.2.2.2.2.2.2⟩ (fun H locs hP hS => ?_)
  refine lv_icmp_eq (tgt := 1228) hx hb dL_law_683 rfl (fun _ => ?_) (fun hc => absurd rfl hc)
  exact kk _ _ H locs hI2 hP hS
set_option maxHeartbeats 4000000 in
theorem lcase_18 {p : Program} {e : Env} {s : State} {m : MethodId} {args : Array Value} {below : List Frame} {meth : Method} {c : Code} {l : Launch} {g : GG} {b L : Nat} {xs : Nat → Int32} {cells slots : Nat} {Q : State → Prop} {H : Heap} {locs : List Loc} {ls : Array Slot} {mc mm : Mem} {j : Nat} (Inv : Mem → Mem → Prop) (hs : LS_18 Inv) (Z : LZ p s m args meth c l g b L xs cells slots) (hI : Inv mc mm) (hj : j + 6 ≤ L) (hl : lv_has ls 4 [(0, .ref b), (1, .ref (g.1 0)), (2, .ref (g.1 108)), (3, .int (nI j))]) (hP : va_P g.2.2.1 vwCl (wL g mc mm) H) (hS : va_S (AA g s.heap.size) s.heap H locs) (kk : ∀ (mc mm : Mem) (H : Heap) (locs : List Loc), Inv mc mm → va_P g.2.2.1 vwCl (wL g mc mm) H → va_S (AA g s.heap.size) s.heap H locs → W p l e room_1 s m args below meth c H locs cells slots Q (F0 m 1228 ls [])) : W p l e room_1 s m args below meth c H locs cells slots Q (F0 m 688 ls []) := by
  have hx := Z.1.1.1
  have hb := Z.1.1.2.1
  obtain ⟨r, mc1, mm1, h9, h10, hI2⟩ := hs mc mm hI (xs (nI j + nI 1).toNatClampNeg) (xs (nI j + nI 2).toNatClampNeg) (xs (nI j + nI 3).toNatClampNeg)
  refine lv_aload_n hx hb dL_law_688 rfl (lv_at hl 1 rfl) ?_
  refine lv_aload_n hx hb dL_law_689 rfl (lv_at hl 0 rfl) ?_
  refine lv_iload_n hx hb dL_law_690 rfl (lv_at hl 3 rfl) ?_
  refine lv_iconst (v := nI 1) hx hb dL_law_691 (by decide) ?_
  refine lv_iadd hx hb dL_law_692 ?_
  refine va_sld hx hb Z.2.1 Z.2.2.1 Z.2.2.2.1 hS (law_in hj Z.2.2.2.2.1 (by decide)) dL_law_693 ?_
  refine lv_aload_n hx hb dL_law_694 rfl (lv_at hl 0 rfl) ?_
  refine lv_iload_n hx hb dL_law_695 rfl (lv_at hl 3 rfl) ?_
  refine lv_iconst (v := nI 2) hx hb dL_law_696 (by decide) ?_
  refine lv_iadd hx hb dL_law_697 ?_
  refine va_sld hx hb Z.2.1 Z.2.2.1 Z.2.2.2.1 hS (law_in hj Z.2.2.2.2.1 (by decide)) dL_law_698 ?_
  refine lv_aload_n hx hb dL_law_699 rfl (lv_at hl 0 rfl) ?_
  refine lv_iload_n hx hb dL_law_700 rfl (lv_at hl 3 rfl) ?_
  refine lv_iconst (v := nI 3) hx hb dL_law_701 (by decide) ?_
  refine lv_iadd hx hb dL_law_702 ?_
  refine va_sld hx hb Z.2.1 Z.2.2.1 Z.2.2.2.1 hS (law_in hj Z.2.2.2.2.1 (by decide)) dL_law_703 ?_
  refine x_LI (rest := []) Z.1 hP hS (kX9_draw l g _ _ _ mc mm _ h9) (isO_w ck_0) (ci := 9) (by decide) rfl rfl mf_X9_draw mv_X9_draw wd_32_0 rfl rfl hl.1 (Nat.le_of_ble_eq_true rfl) ⟨Nat.le_of_ble_eq_true rfl, Nat.le_of_ble_eq_true rfl⟩ dL_law_704 ⟨Z.2.2.2.2.2.1, Z.2.2.2.2.2.2⟩ (fun H locs hP hS => ?_)
  refine lv_aload_n hx hb dL_law_707 rfl (lv_at hl 2 rfl) ?_
  refine lv_aload_n hx hb dL_law_708 rfl (lv_at hl 0 rfl) ?_
  refine lv_iload_n hx hb dL_law_709 rfl (lv_at hl 3 rfl) ?_
  refine lv_iconst (v := nI 1) hx hb dL_law_710 (by decide) ?_
  refine lv_iadd hx hb dL_law_711 ?_
  refine va_sld hx hb Z.2.1 Z.2.2.1 Z.2.2.2.1 hS (law_in hj Z.2.2.2.2.1 (by decide)) dL_law_712 ?_
  refine lv_aload_n hx hb dL_law_713 rfl (lv_at hl 0 rfl) ?_
  refine lv_iload_n hx hb dL_law_714 rfl (lv_at hl 3 rfl) ?_
  refine lv_iconst (v := nI 2) hx hb dL_law_715 (by decide) ?_
  refine lv_iadd hx hb dL_law_716 ?_
  refine va_sld hx hb Z.2.1 Z.2.2.1 Z.2.2.2.1 hS (law_in hj Z.2.2.2.2.1 (by decide)) dL_law_717 ?_
  refine lv_aload_n hx hb dL_law_718 rfl (lv_at hl 0 rfl) ?_
  refine lv_iload_n hx hb dL_law_719 rfl (lv_at hl 3 rfl) ?_
  refine lv_iconst (v := nI 3) hx hb dL_law_720 (by decide) ?_
  refine lv_iadd hx hb dL_law_721 ?_
  refine va_sld hx hb Z.2.1 Z.2.2.1 Z.2.2.2.1 hS (law_in hj Z.2.2.2.2.1 (by decide)) dL_law_722 ?_
  refine x_LI (rest := [.int r]) Z.1 hP hS (kX10_draw l g _ _ _ mc1 mm _ h10) (mO) (ci := 10) (by decide) rfl rfl mf_X10_draw mv_X10_draw wd_32_9 rfl rfl hl.1 (Nat.le_of_ble_eq_true rfl) ⟨Nat.le_of_ble_eq_true rfl, Nat.le_of_ble_eq_true rfl⟩ dL_law_723 ⟨Z.2.2.2.2.2.1, Z.2.2.2.2.2.2⟩ (fun H locs hP hS => ?_)
  refine lv_icmp_eq (tgt := 1228) hx hb dL_law_726 rfl (fun _ => ?_) (fun hc => absurd rfl hc)
  exact kk _ _ H locs hI2 hP hS
set_option maxHeartbeats 4000000 in
theorem lcase_19 {p : Program} {e : Env} {s : State} {m : MethodId} {args : Array Value} {below : List Frame} {meth : Method} {c : Code} {l : Launch} {g : GG} {b L : Nat} {xs : Nat → Int32} {cells slots : Nat} {Q : State → Prop} {H : Heap} {locs : List Loc} {ls : Array Slot} {mc mm : Mem} {j : Nat} (Inv : Mem → Mem → Prop) (hs : LS_19 Inv) (Z : LZ p s m args meth c l g b L xs cells slots) (hI : Inv mc mm) (hj : j + 6 ≤ L) (hl : lv_has ls 4 [(0, .ref b), (1, .ref (g.1 0)), (2, .ref (g.1 108)), (3, .int (nI j))]) (hP : va_P g.2.2.1 vwCl (wL g mc mm) H) (hS : va_S (AA g s.heap.size) s.heap H locs) (kk : ∀ (mc mm : Mem) (H : Heap) (locs : List Loc), Inv mc mm → va_P g.2.2.1 vwCl (wL g mc mm) H → va_S (AA g s.heap.size) s.heap H locs → W p l e room_1 s m args below meth c H locs cells slots Q (F0 m 1228 ls [])) : W p l e room_1 s m args below meth c H locs cells slots Q (F0 m 731 ls []) := by
  have hx := Z.1.1.1
  have hb := Z.1.1.2.1
  obtain ⟨r, mc1, mm1, h9, h10, hI2⟩ := hs mc mm hI
  refine lv_aload_n hx hb dL_law_731 rfl (lv_at hl 1 rfl) ?_
  refine x_LI (rest := []) Z.1 hP hS (kX9_forget l g mc mm _ h9) (isO_w ck_0) (ci := 9) (by decide) rfl rfl mf_X9_forget mv_X9_forget wd_32_14 rfl rfl hl.1 (Nat.le_of_ble_eq_true rfl) ⟨Nat.le_of_ble_eq_true rfl, Nat.le_of_ble_eq_true rfl⟩ dL_law_732 ⟨Z.2.2.2.2.2.1, Z.2.2.2.2.2.2⟩ (fun H locs hP hS => ?_)
  refine lv_aload_n hx hb dL_law_735 rfl (lv_at hl 2 rfl) ?_
  refine x_LI (rest := [.int r]) Z.1 hP hS (kX10_forget l g mc1 mm _ h10) (mO) (ci := 10) (by decide) rfl rfl mf_X10_forget mv_X10_forget wd_32_18 rfl rfl hl.1 (Nat.le_of_ble_eq_true rfl) ⟨Nat.le_of_ble_eq_true rfl, Nat.le_of_ble_eq_true rfl⟩ dL_law_736 ⟨Z.2.2.2.2.2.1, Z.2.2.2.2.2.2⟩ (fun H locs hP hS => ?_)
  refine lv_icmp_eq (tgt := 1228) hx hb dL_law_739 rfl (fun _ => ?_) (fun hc => absurd rfl hc)
  exact kk _ _ H locs hI2 hP hS
set_option maxHeartbeats 4000000 in
theorem lcase_20 {p : Program} {e : Env} {s : State} {m : MethodId} {args : Array Value} {below : List Frame} {meth : Method} {c : Code} {l : Launch} {g : GG} {b L : Nat} {xs : Nat → Int32} {cells slots : Nat} {Q : State → Prop} {H : Heap} {locs : List Loc} {ls : Array Slot} {mc mm : Mem} {j : Nat} (Inv : Mem → Mem → Prop) (hs : LS_20 Inv) (Z : LZ p s m args meth c l g b L xs cells slots) (hI : Inv mc mm) (hj : j + 6 ≤ L) (hl : lv_has ls 4 [(0, .ref b), (1, .ref (g.1 0)), (2, .ref (g.1 108)), (3, .int (nI j))]) (hP : va_P g.2.2.1 vwCl (wL g mc mm) H) (hS : va_S (AA g s.heap.size) s.heap H locs) (kk : ∀ (mc mm : Mem) (H : Heap) (locs : List Loc), Inv mc mm → va_P g.2.2.1 vwCl (wL g mc mm) H → va_S (AA g s.heap.size) s.heap H locs → W p l e room_1 s m args below meth c H locs cells slots Q (F0 m 1228 ls [])) : W p l e room_1 s m args below meth c H locs cells slots Q (F0 m 744 ls []) := by
  have hx := Z.1.1.1
  have hb := Z.1.1.2.1
  obtain ⟨r, mc1, mm1, h9, h10, hI2⟩ := hs mc mm hI
  refine lv_aload_n hx hb dL_law_744 rfl (lv_at hl 1 rfl) ?_
  refine x_LI (rest := []) Z.1 hP hS (kX9_never l g mc mm _ h9) (isO_w ck_0) (ci := 9) (by decide) rfl rfl mf_X9_never mv_X9_never wd_32_22 rfl rfl hl.1 (Nat.le_of_ble_eq_true rfl) ⟨Nat.le_of_ble_eq_true rfl, Nat.le_of_ble_eq_true rfl⟩ dL_law_745 ⟨Z.2.2.2.2.2.1, Z.2.2.2.2.2.2⟩ (fun H locs hP hS => ?_)
  refine lv_aload_n hx hb dL_law_748 rfl (lv_at hl 2 rfl) ?_
  refine x_LI (rest := [.int r]) Z.1 hP hS (kX10_never l g mc1 mm _ h10) (mO) (ci := 10) (by decide) rfl rfl mf_X10_never mv_X10_never wd_33_6 rfl rfl hl.1 (Nat.le_of_ble_eq_true rfl) ⟨Nat.le_of_ble_eq_true rfl, Nat.le_of_ble_eq_true rfl⟩ dL_law_749 ⟨Z.2.2.2.2.2.1, Z.2.2.2.2.2.2⟩ (fun H locs hP hS => ?_)
  refine lv_icmp_eq (tgt := 1228) hx hb dL_law_752 rfl (fun _ => ?_) (fun hc => absurd rfl hc)
  exact kk _ _ H locs hI2 hP hS
set_option maxHeartbeats 4000000 in
theorem lcase_21 {p : Program} {e : Env} {s : State} {m : MethodId} {args : Array Value} {below : List Frame} {meth : Method} {c : Code} {l : Launch} {g : GG} {b L : Nat} {xs : Nat → Int32} {cells slots : Nat} {Q : State → Prop} {H : Heap} {locs : List Loc} {ls : Array Slot} {mc mm : Mem} {j : Nat} (Inv : Mem → Mem → Prop) (hs : LS_21 Inv) (Z : LZ p s m args meth c l g b L xs cells slots) (hI : Inv mc mm) (hj : j + 6 ≤ L) (hl : lv_has ls 4 [(0, .ref b), (1, .ref (g.1 0)), (2, .ref (g.1 108)), (3, .int (nI j))]) (hP : va_P g.2.2.1 vwCl (wL g mc mm) H) (hS : va_S (AA g s.heap.size) s.heap H locs) (kk : ∀ (mc mm : Mem) (H : Heap) (locs : List Loc), Inv mc mm → va_P g.2.2.1 vwCl (wL g mc mm) H → va_S (AA g s.heap.size) s.heap H locs → W p l e room_1 s m args below meth c H locs cells slots Q (F0 m 1228 ls [])) : W p l e room_1 s m args below meth c H locs cells slots Q (F0 m 757 ls []) := by
  have hx := Z.1.1.1
  have hb := Z.1.1.2.1
  obtain ⟨r, mc1, mm1, h9, h10, hI2⟩ := hs mc mm hI (xs (nI j + nI 1).toNatClampNeg) (xs (nI j + nI 2).toNatClampNeg)
  refine lv_aload_n hx hb dL_law_757 rfl (lv_at hl 1 rfl) ?_
  refine lv_aload_n hx hb dL_law_758 rfl (lv_at hl 0 rfl) ?_
  refine lv_iload_n hx hb dL_law_759 rfl (lv_at hl 3 rfl) ?_
  refine lv_iconst (v := nI 1) hx hb dL_law_760 (by decide) ?_
  refine lv_iadd hx hb dL_law_761 ?_
  refine va_sld hx hb Z.2.1 Z.2.2.1 Z.2.2.2.1 hS (law_in hj Z.2.2.2.2.1 (by decide)) dL_law_762 ?_
  refine lv_aload_n hx hb dL_law_763 rfl (lv_at hl 0 rfl) ?_
  refine lv_iload_n hx hb dL_law_764 rfl (lv_at hl 3 rfl) ?_
  refine lv_iconst (v := nI 2) hx hb dL_law_765 (by decide) ?_
  refine lv_iadd hx hb dL_law_766 ?_
  refine va_sld hx hb Z.2.1 Z.2.2.1 Z.2.2.2.1 hS (law_in hj Z.2.2.2.2.1 (by decide)) dL_law_767 ?_
  refine x_LI (rest := []) Z.1 hP hS (kX9_stone l g _ _ mc mm _ h9) (isO_w ck_0) (ci := 9) (by decide) rfl rfl mf_X9_stone mv_X9_stone wd_33_18 rfl rfl hl.1 (Nat.le_of_ble_eq_true rfl) ⟨Nat.le_of_ble_eq_true rfl, Nat.le_of_ble_eq_true rfl⟩ dL_law_768 ⟨Z.2.2.2.2.2.1, Z.2.2.2.2.2.2⟩ (fun H locs hP hS => ?_)
  refine lv_aload_n hx hb dL_law_771 rfl (lv_at hl 2 rfl) ?_
  refine lv_aload_n hx hb dL_law_772 rfl (lv_at hl 0 rfl) ?_
  refine lv_iload_n hx hb dL_law_773 rfl (lv_at hl 3 rfl) ?_
  refine lv_iconst (v := nI 1) hx hb dL_law_774 (by decide) ?_
  refine lv_iadd hx hb dL_law_775 ?_
  refine va_sld hx hb Z.2.1 Z.2.2.1 Z.2.2.2.1 hS (law_in hj Z.2.2.2.2.1 (by decide)) dL_law_776 ?_
  refine lv_aload_n hx hb dL_law_777 rfl (lv_at hl 0 rfl) ?_
  refine lv_iload_n hx hb dL_law_778 rfl (lv_at hl 3 rfl) ?_
  refine lv_iconst (v := nI 2) hx hb dL_law_779 (by decide) ?_
  refine lv_iadd hx hb dL_law_780 ?_
  refine va_sld hx hb Z.2.1 Z.2.2.1 Z.2.2.2.1 hS (law_in hj Z.2.2.2.2.1 (by decide)) dL_law_781 ?_
  refine x_LI (rest := [.int r]) Z.1 hP hS (kX10_stone l g _ _ mc1 mm _ h10) (mO) (ci := 10) (by decide) rfl rfl mf_X10_stone mv_X10_stone wd_34_14 rfl rfl hl.1 (Nat.le_of_ble_eq_true rfl) ⟨Nat.le_of_ble_eq_true rfl, Nat.le_of_ble_eq_true rfl⟩ dL_law_782 ⟨Z.2.2.2.2.2.1, Z.2.2.2.2.2.2⟩ (fun H locs hP hS => ?_)
  refine lv_icmp_eq (tgt := 1228) hx hb dL_law_785 rfl (fun _ => ?_) (fun hc => absurd rfl hc)
  exact kk _ _ H locs hI2 hP hS
set_option maxHeartbeats 4000000 in
theorem lcase_22 {p : Program} {e : Env} {s : State} {m : MethodId} {args : Array Value} {below : List Frame} {meth : Method} {c : Code} {l : Launch} {g : GG} {b L : Nat} {xs : Nat → Int32} {cells slots : Nat} {Q : State → Prop} {H : Heap} {locs : List Loc} {ls : Array Slot} {mc mm : Mem} {j : Nat} (Inv : Mem → Mem → Prop) (hs : LS_22 Inv) (Z : LZ p s m args meth c l g b L xs cells slots) (hI : Inv mc mm) (hj : j + 6 ≤ L) (hl : lv_has ls 4 [(0, .ref b), (1, .ref (g.1 0)), (2, .ref (g.1 108)), (3, .int (nI j))]) (hP : va_P g.2.2.1 vwCl (wL g mc mm) H) (hS : va_S (AA g s.heap.size) s.heap H locs) (kk : ∀ (mc mm : Mem) (H : Heap) (locs : List Loc), Inv mc mm → va_P g.2.2.1 vwCl (wL g mc mm) H → va_S (AA g s.heap.size) s.heap H locs → W p l e room_1 s m args below meth c H locs cells slots Q (F0 m 1228 ls [])) : W p l e room_1 s m args below meth c H locs cells slots Q (F0 m 790 ls []) := by
  have hx := Z.1.1.1
  have hb := Z.1.1.2.1
  obtain ⟨r, mc1, mm1, h9, h10, hI2⟩ := hs mc mm hI (xs (nI j + nI 1).toNatClampNeg)
  refine lv_aload_n hx hb dL_law_790 rfl (lv_at hl 1 rfl) ?_
  refine lv_aload_n hx hb dL_law_791 rfl (lv_at hl 0 rfl) ?_
  refine lv_iload_n hx hb dL_law_792 rfl (lv_at hl 3 rfl) ?_
  refine lv_iconst (v := nI 1) hx hb dL_law_793 (by decide) ?_
  refine lv_iadd hx hb dL_law_794 ?_
  refine va_sld hx hb Z.2.1 Z.2.2.1 Z.2.2.2.1 hS (law_in hj Z.2.2.2.2.1 (by decide)) dL_law_795 ?_
  refine x_LI (rest := []) Z.1 hP hS (kX9_bucket l g _ mc mm _ h9) (isO_w ck_0) (ci := 9) (by decide) rfl rfl mf_X9_bucket mv_X9_bucket wd_35_6 rfl rfl hl.1 (Nat.le_of_ble_eq_true rfl) ⟨Nat.le_of_ble_eq_true rfl, Nat.le_of_ble_eq_true rfl⟩ dL_law_796 ⟨Z.2.2.2.2.2.1, Z.2.2.2.2.2.2⟩ (fun H locs hP hS => ?_)
  refine lv_aload_n hx hb dL_law_799 rfl (lv_at hl 2 rfl) ?_
  refine lv_aload_n hx hb dL_law_800 rfl (lv_at hl 0 rfl) ?_
  refine lv_iload_n hx hb dL_law_801 rfl (lv_at hl 3 rfl) ?_
  refine lv_iconst (v := nI 1) hx hb dL_law_802 (by decide) ?_
  refine lv_iadd hx hb dL_law_803 ?_
  refine va_sld hx hb Z.2.1 Z.2.2.1 Z.2.2.2.1 hS (law_in hj Z.2.2.2.2.1 (by decide)) dL_law_804 ?_
  refine x_LI (rest := [.int r]) Z.1 hP hS (kX10_bucket l g _ mc1 mm _ h10) (mO) (ci := 10) (by decide) rfl rfl mf_X10_bucket mv_X10_bucket wd_35_10 rfl rfl hl.1 (Nat.le_of_ble_eq_true rfl) ⟨Nat.le_of_ble_eq_true rfl, Nat.le_of_ble_eq_true rfl⟩ dL_law_805 ⟨Z.2.2.2.2.2.1, Z.2.2.2.2.2.2⟩ (fun H locs hP hS => ?_)
  refine lv_icmp_eq (tgt := 1228) hx hb dL_law_808 rfl (fun _ => ?_) (fun hc => absurd rfl hc)
  exact kk _ _ H locs hI2 hP hS
set_option maxHeartbeats 4000000 in
theorem lcase_23 {p : Program} {e : Env} {s : State} {m : MethodId} {args : Array Value} {below : List Frame} {meth : Method} {c : Code} {l : Launch} {g : GG} {b L : Nat} {xs : Nat → Int32} {cells slots : Nat} {Q : State → Prop} {H : Heap} {locs : List Loc} {ls : Array Slot} {mc mm : Mem} {j : Nat} (Inv : Mem → Mem → Prop) (hs : LS_23 Inv) (Z : LZ p s m args meth c l g b L xs cells slots) (hI : Inv mc mm) (hj : j + 6 ≤ L) (hl : lv_has ls 4 [(0, .ref b), (1, .ref (g.1 0)), (2, .ref (g.1 108)), (3, .int (nI j))]) (hP : va_P g.2.2.1 vwCl (wL g mc mm) H) (hS : va_S (AA g s.heap.size) s.heap H locs) (kk : ∀ (mc mm : Mem) (H : Heap) (locs : List Loc), Inv mc mm → va_P g.2.2.1 vwCl (wL g mc mm) H → va_S (AA g s.heap.size) s.heap H locs → W p l e room_1 s m args below meth c H locs cells slots Q (F0 m 1228 ls [])) : W p l e room_1 s m args below meth c H locs cells slots Q (F0 m 813 ls []) := by
  have hx := Z.1.1.1
  have hb := Z.1.1.2.1
  obtain ⟨r, mc1, mm1, h9, h10, hI2⟩ := hs mc mm hI (xs (nI j + nI 1).toNatClampNeg)
  refine lv_aload_n hx hb dL_law_813 rfl (lv_at hl 1 rfl) ?_
  refine lv_aload_n hx hb dL_law_814 rfl (lv_at hl 0 rfl) ?_
  refine lv_iload_n hx hb dL_law_815 rfl (lv_at hl 3 rfl) ?_
  refine lv_iconst (v := nI 1) hx hb dL_law_816 (by decide) ?_
  refine lv_iadd hx hb dL_law_817 ?_
  refine va_sld hx hb Z.2.1 Z.2.2.1 Z.2.2.2.1 hS (law_in hj Z.2.2.2.2.1 (by decide)) dL_law_818 ?_
  refine x_LI (rest := []) Z.1 hP hS (kX9_ask l g _ mc mm _ h9) (isO_w ck_0) (ci := 9) (by decide) rfl rfl mf_X9_ask mv_X9_ask wd_35_18 rfl rfl hl.1 (Nat.le_of_ble_eq_true rfl) ⟨Nat.le_of_ble_eq_true rfl, Nat.le_of_ble_eq_true rfl⟩ dL_law_819 ⟨Z.2.2.2.2.2.1, Z.2.2.2.2.2.2⟩ (fun H locs hP hS => ?_)
  refine lv_aload_n hx hb dL_law_822 rfl (lv_at hl 2 rfl) ?_
  refine lv_aload_n hx hb dL_law_823 rfl (lv_at hl 0 rfl) ?_
  refine lv_iload_n hx hb dL_law_824 rfl (lv_at hl 3 rfl) ?_
  refine lv_iconst (v := nI 1) hx hb dL_law_825 (by decide) ?_
  refine lv_iadd hx hb dL_law_826 ?_
  refine va_sld hx hb Z.2.1 Z.2.2.1 Z.2.2.2.1 hS (law_in hj Z.2.2.2.2.1 (by decide)) dL_law_827 ?_
  refine x_LI (rest := [.int r]) Z.1 hP hS (kX10_ask l g _ mc1 mm _ h10) (mO) (ci := 10) (by decide) rfl rfl mf_X10_ask mv_X10_ask wd_36_7 rfl rfl hl.1 (Nat.le_of_ble_eq_true rfl) ⟨Nat.le_of_ble_eq_true rfl, Nat.le_of_ble_eq_true rfl⟩ dL_law_828 ⟨Z.2.2.2.2.2.1, Z.2.2.2.2.2.2⟩ (fun H locs hP hS => ?_)
  refine lv_icmp_eq (tgt := 1228) hx hb dL_law_831 rfl (fun _ => ?_) (fun hc => absurd rfl hc)
  exact kk _ _ H locs hI2 hP hS
set_option maxHeartbeats 4000000 in
theorem lcase_24 {p : Program} {e : Env} {s : State} {m : MethodId} {args : Array Value} {below : List Frame} {meth : Method} {c : Code} {l : Launch} {g : GG} {b L : Nat} {xs : Nat → Int32} {cells slots : Nat} {Q : State → Prop} {H : Heap} {locs : List Loc} {ls : Array Slot} {mc mm : Mem} {j : Nat} (Inv : Mem → Mem → Prop) (hs : LS_24 Inv) (Z : LZ p s m args meth c l g b L xs cells slots) (hI : Inv mc mm) (hj : j + 6 ≤ L) (hl : lv_has ls 4 [(0, .ref b), (1, .ref (g.1 0)), (2, .ref (g.1 108)), (3, .int (nI j))]) (hP : va_P g.2.2.1 vwCl (wL g mc mm) H) (hS : va_S (AA g s.heap.size) s.heap H locs) (kk : ∀ (mc mm : Mem) (H : Heap) (locs : List Loc), Inv mc mm → va_P g.2.2.1 vwCl (wL g mc mm) H → va_S (AA g s.heap.size) s.heap H locs → W p l e room_1 s m args below meth c H locs cells slots Q (F0 m 1228 ls [])) : W p l e room_1 s m args below meth c H locs cells slots Q (F0 m 836 ls []) := by
  have hx := Z.1.1.1
  have hb := Z.1.1.2.1
  obtain ⟨r, mc1, mm1, h9, h10, hI2⟩ := hs mc mm hI (xs (nI j + nI 1).toNatClampNeg) (xs (nI j + nI 2).toNatClampNeg) (xs (nI j + nI 3).toNatClampNeg) (xs (nI j + nI 4).toNatClampNeg)
  refine lv_aload_n hx hb dL_law_836 rfl (lv_at hl 1 rfl) ?_
  refine lv_aload_n hx hb dL_law_837 rfl (lv_at hl 0 rfl) ?_
  refine lv_iload_n hx hb dL_law_838 rfl (lv_at hl 3 rfl) ?_
  refine lv_iconst (v := nI 1) hx hb dL_law_839 (by decide) ?_
  refine lv_iadd hx hb dL_law_840 ?_
  refine va_sld hx hb Z.2.1 Z.2.2.1 Z.2.2.2.1 hS (law_in hj Z.2.2.2.2.1 (by decide)) dL_law_841 ?_
  refine lv_aload_n hx hb dL_law_842 rfl (lv_at hl 0 rfl) ?_
  refine lv_iload_n hx hb dL_law_843 rfl (lv_at hl 3 rfl) ?_
  refine lv_iconst (v := nI 2) hx hb dL_law_844 (by decide) ?_
  refine lv_iadd hx hb dL_law_845 ?_
  refine va_sld hx hb Z.2.1 Z.2.2.1 Z.2.2.2.1 hS (law_in hj Z.2.2.2.2.1 (by decide)) dL_law_846 ?_
  refine lv_aload_n hx hb dL_law_847 rfl (lv_at hl 0 rfl) ?_
  refine lv_iload_n hx hb dL_law_848 rfl (lv_at hl 3 rfl) ?_
  refine lv_iconst (v := nI 3) hx hb dL_law_849 (by decide) ?_
  refine lv_iadd hx hb dL_law_850 ?_
  refine va_sld hx hb Z.2.1 Z.2.2.1 Z.2.2.2.1 hS (law_in hj Z.2.2.2.2.1 (by decide)) dL_law_851 ?_
  refine lv_aload_n hx hb dL_law_852 rfl (lv_at hl 0 rfl) ?_
  refine lv_iload_n hx hb dL_law_853 rfl (lv_at hl 3 rfl) ?_
  refine lv_iconst (v := nI 4) hx hb dL_law_854 (by decide) ?_
  refine lv_iadd hx hb dL_law_855 ?_
  refine va_sld hx hb Z.2.1 Z.2.2.1 Z.2.2.2.1 hS (law_in hj Z.2.2.2.2.1 (by decide)) dL_law_856 ?_
  refine x_LL (rest := []) Z.1 hP hS (kX9_chance l g _ _ _ _ mc mm _ h9) (isO_w ck_0) (ci := 9) (by decide) rfl rfl mf_X9_chance mv_X9_chance wd_36_19 rfl rfl hl.1 (Nat.le_of_ble_eq_true rfl) ⟨Nat.le_of_ble_eq_true rfl, Nat.le_of_ble_eq_true rfl⟩ dL_law_857 ⟨Z.2.2.2.2.2.1, Z.2.2.2.2.2.2⟩ (fun H locs hP hS => ?_)
  refine lv_aload_n hx hb dL_law_860 rfl (lv_at hl 2 rfl) ?_
  refine lv_aload_n hx hb dL_law_861 rfl (lv_at hl 0 rfl) ?_
  refine lv_iload_n hx hb dL_law_862 rfl (lv_at hl 3 rfl) ?_
  refine lv_iconst (v := nI 1) hx hb dL_law_863 (by decide) ?_
  refine lv_iadd hx hb dL_law_864 ?_
  refine va_sld hx hb Z.2.1 Z.2.2.1 Z.2.2.2.1 hS (law_in hj Z.2.2.2.2.1 (by decide)) dL_law_865 ?_
  refine lv_aload_n hx hb dL_law_866 rfl (lv_at hl 0 rfl) ?_
  refine lv_iload_n hx hb dL_law_867 rfl (lv_at hl 3 rfl) ?_
  refine lv_iconst (v := nI 2) hx hb dL_law_868 (by decide) ?_
  refine lv_iadd hx hb dL_law_869 ?_
  refine va_sld hx hb Z.2.1 Z.2.2.1 Z.2.2.2.1 hS (law_in hj Z.2.2.2.2.1 (by decide)) dL_law_870 ?_
  refine lv_aload_n hx hb dL_law_871 rfl (lv_at hl 0 rfl) ?_
  refine lv_iload_n hx hb dL_law_872 rfl (lv_at hl 3 rfl) ?_
  refine lv_iconst (v := nI 3) hx hb dL_law_873 (by decide) ?_
  refine lv_iadd hx hb dL_law_874 ?_
  refine va_sld hx hb Z.2.1 Z.2.2.1 Z.2.2.2.1 hS (law_in hj Z.2.2.2.2.1 (by decide)) dL_law_875 ?_
  refine lv_aload_n hx hb dL_law_876 rfl (lv_at hl 0 rfl) ?_
  refine lv_iload_n hx hb dL_law_877 rfl (lv_at hl 3 rfl) ?_
  refine lv_iconst (v := nI 4) hx hb dL_law_878 (by decide) ?_
  refine lv_iadd hx hb dL_law_879 ?_
  refine va_sld hx hb Z.2.1 Z.2.2.1 Z.2.2.2.1 hS (law_in hj Z.2.2.2.2.1 (by decide)) dL_law_880 ?_
  refine x_LL (rest := [.long r]) Z.1 hP hS (kX10_chance l g _ _ _ _ mc1 mm _ h10) (mO) (ci := 10) (by decide) rfl rfl mf_X10_chance mv_X10_chance wd_37_9 rfl rfl hl.1 (Nat.le_of_ble_eq_true rfl) ⟨Nat.le_of_ble_eq_true rfl, Nat.le_of_ble_eq_true rfl⟩ dL_law_881 ⟨Z.2.2.2.2.2.1, Z.2.2.2.2.2.2⟩ (fun H locs hP hS => ?_)
  refine W.lcmp hx hb dL_law_884 ?_
  rw [lg_self]
  refine lv_if_eq (tgt := 1228) hx hb dL_law_885 rfl (fun _ => ?_) (fun hc => absurd rfl hc)
  exact kk _ _ H locs hI2 hP hS
set_option maxHeartbeats 4000000 in
theorem lcase_25 {p : Program} {e : Env} {s : State} {m : MethodId} {args : Array Value} {below : List Frame} {meth : Method} {c : Code} {l : Launch} {g : GG} {b L : Nat} {xs : Nat → Int32} {cells slots : Nat} {Q : State → Prop} {H : Heap} {locs : List Loc} {ls : Array Slot} {mc mm : Mem} {j : Nat} (Inv : Mem → Mem → Prop) (hs : LS_25 Inv) (Z : LZ p s m args meth c l g b L xs cells slots) (hI : Inv mc mm) (hj : j + 6 ≤ L) (hl : lv_has ls 4 [(0, .ref b), (1, .ref (g.1 0)), (2, .ref (g.1 108)), (3, .int (nI j))]) (hP : va_P g.2.2.1 vwCl (wL g mc mm) H) (hS : va_S (AA g s.heap.size) s.heap H locs) (kk : ∀ (mc mm : Mem) (H : Heap) (locs : List Loc), Inv mc mm → va_P g.2.2.1 vwCl (wL g mc mm) H → va_S (AA g s.heap.size) s.heap H locs → W p l e room_1 s m args below meth c H locs cells slots Q (F0 m 1228 ls [])) : W p l e room_1 s m args below meth c H locs cells slots Q (F0 m 890 ls []) := by
  have hx := Z.1.1.1
  have hb := Z.1.1.2.1
  obtain ⟨r, mc1, mm1, h9, h10, hI2⟩ := hs mc mm hI (xs (nI j + nI 1).toNatClampNeg) (xs (nI j + nI 2).toNatClampNeg) (xs (nI j + nI 3).toNatClampNeg)
  refine lv_aload_n hx hb dL_law_890 rfl (lv_at hl 1 rfl) ?_
  refine lv_aload_n hx hb dL_law_891 rfl (lv_at hl 0 rfl) ?_
  refine lv_iload_n hx hb dL_law_892 rfl (lv_at hl 3 rfl) ?_
  refine lv_iconst (v := nI 1) hx hb dL_law_893 (by decide) ?_
  refine lv_iadd hx hb dL_law_894 ?_
  refine va_sld hx hb Z.2.1 Z.2.2.1 Z.2.2.2.1 hS (law_in hj Z.2.2.2.2.1 (by decide)) dL_law_895 ?_
  refine lv_aload_n hx hb dL_law_896 rfl (lv_at hl 0 rfl) ?_
  refine lv_iload_n hx hb dL_law_897 rfl (lv_at hl 3 rfl) ?_
  refine lv_iconst (v := nI 2) hx hb dL_law_898 (by decide) ?_
  refine lv_iadd hx hb dL_law_899 ?_
  refine va_sld hx hb Z.2.1 Z.2.2.1 Z.2.2.2.1 hS (law_in hj Z.2.2.2.2.1 (by decide)) dL_law_900 ?_
  refine lv_aload_n hx hb dL_law_901 rfl (lv_at hl 0 rfl) ?_
  refine lv_iload_n hx hb dL_law_902 rfl (lv_at hl 3 rfl) ?_
  refine lv_iconst (v := nI 3) hx hb dL_law_903 (by decide) ?_
  refine lv_iadd hx hb dL_law_904 ?_
  refine va_sld hx hb Z.2.1 Z.2.2.1 Z.2.2.2.1 hS (law_in hj Z.2.2.2.2.1 (by decide)) dL_law_905 ?_
  refine x_LI (rest := []) Z.1 hP hS (kX9_day l g _ _ _ mc mm _ h9) (isO_w ck_0) (ci := 9) (by decide) rfl rfl mf_X9_day mv_X9_day wd_38_1 rfl rfl hl.1 (Nat.le_of_ble_eq_true rfl) ⟨Nat.le_of_ble_eq_true rfl, Nat.le_of_ble_eq_true rfl⟩ dL_law_906 ⟨Z.2.2.2.2.2.1, Z.2.2.2.2.2.2⟩ (fun H locs hP hS => ?_)
  refine lv_aload_n hx hb dL_law_909 rfl (lv_at hl 2 rfl) ?_
  refine lv_aload_n hx hb dL_law_910 rfl (lv_at hl 0 rfl) ?_
  refine lv_iload_n hx hb dL_law_911 rfl (lv_at hl 3 rfl) ?_
  refine lv_iconst (v := nI 1) hx hb dL_law_912 (by decide) ?_
  refine lv_iadd hx hb dL_law_913 ?_
  refine va_sld hx hb Z.2.1 Z.2.2.1 Z.2.2.2.1 hS (law_in hj Z.2.2.2.2.1 (by decide)) dL_law_914 ?_
  refine lv_aload_n hx hb dL_law_915 rfl (lv_at hl 0 rfl) ?_
  refine lv_iload_n hx hb dL_law_916 rfl (lv_at hl 3 rfl) ?_
  refine lv_iconst (v := nI 2) hx hb dL_law_917 (by decide) ?_
  refine lv_iadd hx hb dL_law_918 ?_
  refine va_sld hx hb Z.2.1 Z.2.2.1 Z.2.2.2.1 hS (law_in hj Z.2.2.2.2.1 (by decide)) dL_law_919 ?_
  refine lv_aload_n hx hb dL_law_920 rfl (lv_at hl 0 rfl) ?_
  refine lv_iload_n hx hb dL_law_921 rfl (lv_at hl 3 rfl) ?_
  refine lv_iconst (v := nI 3) hx hb dL_law_922 (by decide) ?_
  refine lv_iadd hx hb dL_law_923 ?_
  refine va_sld hx hb Z.2.1 Z.2.2.1 Z.2.2.2.1 hS (law_in hj Z.2.2.2.2.1 (by decide)) dL_law_924 ?_
  refine x_LI (rest := [.int r]) Z.1 hP hS (kX10_day l g _ _ _ mc1 mm _ h10) (mO) (ci := 10) (by decide) rfl rfl mf_X10_day mv_X10_day wd_38_16 rfl rfl hl.1 (Nat.le_of_ble_eq_true rfl) ⟨Nat.le_of_ble_eq_true rfl, Nat.le_of_ble_eq_true rfl⟩ dL_law_925 ⟨Z.2.2.2.2.2.1, Z.2.2.2.2.2.2⟩ (fun H locs hP hS => ?_)
  refine lv_icmp_eq (tgt := 1228) hx hb dL_law_928 rfl (fun _ => ?_) (fun hc => absurd rfl hc)
  exact kk _ _ H locs hI2 hP hS
set_option maxHeartbeats 4000000 in
theorem lcase_26 {p : Program} {e : Env} {s : State} {m : MethodId} {args : Array Value} {below : List Frame} {meth : Method} {c : Code} {l : Launch} {g : GG} {b L : Nat} {xs : Nat → Int32} {cells slots : Nat} {Q : State → Prop} {H : Heap} {locs : List Loc} {ls : Array Slot} {mc mm : Mem} {j : Nat} (Inv : Mem → Mem → Prop) (hs : LS_26 Inv) (Z : LZ p s m args meth c l g b L xs cells slots) (hI : Inv mc mm) (hj : j + 6 ≤ L) (hl : lv_has ls 4 [(0, .ref b), (1, .ref (g.1 0)), (2, .ref (g.1 108)), (3, .int (nI j))]) (hP : va_P g.2.2.1 vwCl (wL g mc mm) H) (hS : va_S (AA g s.heap.size) s.heap H locs) (kk : ∀ (mc mm : Mem) (H : Heap) (locs : List Loc), Inv mc mm → va_P g.2.2.1 vwCl (wL g mc mm) H → va_S (AA g s.heap.size) s.heap H locs → W p l e room_1 s m args below meth c H locs cells slots Q (F0 m 1228 ls [])) : W p l e room_1 s m args below meth c H locs cells slots Q (F0 m 933 ls []) := by
  have hx := Z.1.1.1
  have hb := Z.1.1.2.1
  obtain ⟨r, mc1, mm1, h9, h10, hI2⟩ := hs mc mm hI (xs (nI j + nI 1).toNatClampNeg) (xs (nI j + nI 2).toNatClampNeg) (xs (nI j + nI 3).toNatClampNeg)
  refine lv_aload_n hx hb dL_law_933 rfl (lv_at hl 1 rfl) ?_
  refine lv_aload_n hx hb dL_law_934 rfl (lv_at hl 0 rfl) ?_
  refine lv_iload_n hx hb dL_law_935 rfl (lv_at hl 3 rfl) ?_
  refine lv_iconst (v := nI 1) hx hb dL_law_936 (by decide) ?_
  refine lv_iadd hx hb dL_law_937 ?_
  refine va_sld hx hb Z.2.1 Z.2.2.1 Z.2.2.2.1 hS (law_in hj Z.2.2.2.2.1 (by decide)) dL_law_938 ?_
  refine lv_aload_n hx hb dL_law_939 rfl (lv_at hl 0 rfl) ?_
  refine lv_iload_n hx hb dL_law_940 rfl (lv_at hl 3 rfl) ?_
  refine lv_iconst (v := nI 2) hx hb dL_law_941 (by decide) ?_
  refine lv_iadd hx hb dL_law_942 ?_
  refine va_sld hx hb Z.2.1 Z.2.2.1 Z.2.2.2.1 hS (law_in hj Z.2.2.2.2.1 (by decide)) dL_law_943 ?_
  refine lv_aload_n hx hb dL_law_944 rfl (lv_at hl 0 rfl) ?_
  refine lv_iload_n hx hb dL_law_945 rfl (lv_at hl 3 rfl) ?_
  refine lv_iconst (v := nI 3) hx hb dL_law_946 (by decide) ?_
  refine lv_iadd hx hb dL_law_947 ?_
  refine va_sld hx hb Z.2.1 Z.2.2.1 Z.2.2.2.1 hS (law_in hj Z.2.2.2.2.1 (by decide)) dL_law_948 ?_
  refine x_LI (rest := []) Z.1 hP hS (kX9_sheet l g _ _ _ mc mm _ h9) (isO_w ck_0) (ci := 9) (by decide) rfl rfl mf_X9_sheet mv_X9_sheet wd_39_7 rfl rfl hl.1 (Nat.le_of_ble_eq_true rfl) ⟨Nat.le_of_ble_eq_true rfl, Nat.le_of_ble_eq_true rfl⟩ dL_law_949 ⟨Z.2.2.2.2.2.1, Z.2.2.2.2.2.2⟩ (fun H locs hP hS => ?_)
  refine lv_aload_n hx hb dL_law_952 rfl (lv_at hl 2 rfl) ?_
  refine lv_aload_n hx hb dL_law_953 rfl (lv_at hl 0 rfl) ?_
  refine lv_iload_n hx hb dL_law_954 rfl (lv_at hl 3 rfl) ?_
  refine lv_iconst (v := nI 1) hx hb dL_law_955 (by decide) ?_
  refine lv_iadd hx hb dL_law_956 ?_
  refine va_sld hx hb Z.2.1 Z.2.2.1 Z.2.2.2.1 hS (law_in hj Z.2.2.2.2.1 (by decide)) dL_law_957 ?_
  refine lv_aload_n hx hb dL_law_958 rfl (lv_at hl 0 rfl) ?_
  refine lv_iload_n hx hb dL_law_959 rfl (lv_at hl 3 rfl) ?_
  refine lv_iconst (v := nI 2) hx hb dL_law_960 (by decide) ?_
  refine lv_iadd hx hb dL_law_961 ?_
  refine va_sld hx hb Z.2.1 Z.2.2.1 Z.2.2.2.1 hS (law_in hj Z.2.2.2.2.1 (by decide)) dL_law_962 ?_
  refine lv_aload_n hx hb dL_law_963 rfl (lv_at hl 0 rfl) ?_
  refine lv_iload_n hx hb dL_law_964 rfl (lv_at hl 3 rfl) ?_
  refine lv_iconst (v := nI 3) hx hb dL_law_965 (by decide) ?_
  refine lv_iadd hx hb dL_law_966 ?_
  refine va_sld hx hb Z.2.1 Z.2.2.1 Z.2.2.2.1 hS (law_in hj Z.2.2.2.2.1 (by decide)) dL_law_967 ?_
  refine x_LI (rest := [.int r]) Z.1 hP hS (kX10_sheet l g _ _ _ mc1 mm _ h10) (mO) (ci := 10) (by decide) rfl rfl mf_X10_sheet mv_X10_sheet wd_39_17 rfl rfl hl.1 (Nat.le_of_ble_eq_true rfl) ⟨Nat.le_of_ble_eq_true rfl, Nat.le_of_ble_eq_true rfl⟩ dL_law_968 ⟨Z.2.2.2.2.2.1, Z.2.2.2.2.2.2⟩ (fun H locs hP hS => ?_)
  refine lv_icmp_eq (tgt := 1228) hx hb dL_law_971 rfl (fun _ => ?_) (fun hc => absurd rfl hc)
  exact kk _ _ H locs hI2 hP hS
set_option maxHeartbeats 4000000 in
theorem lcase_27 {p : Program} {e : Env} {s : State} {m : MethodId} {args : Array Value} {below : List Frame} {meth : Method} {c : Code} {l : Launch} {g : GG} {b L : Nat} {xs : Nat → Int32} {cells slots : Nat} {Q : State → Prop} {H : Heap} {locs : List Loc} {ls : Array Slot} {mc mm : Mem} {j : Nat} (Inv : Mem → Mem → Prop) (hs : LS_27 Inv) (Z : LZ p s m args meth c l g b L xs cells slots) (hI : Inv mc mm) (hj : j + 6 ≤ L) (hl : lv_has ls 4 [(0, .ref b), (1, .ref (g.1 0)), (2, .ref (g.1 108)), (3, .int (nI j))]) (hP : va_P g.2.2.1 vwCl (wL g mc mm) H) (hS : va_S (AA g s.heap.size) s.heap H locs) (kk : ∀ (mc mm : Mem) (H : Heap) (locs : List Loc), Inv mc mm → va_P g.2.2.1 vwCl (wL g mc mm) H → va_S (AA g s.heap.size) s.heap H locs → W p l e room_1 s m args below meth c H locs cells slots Q (F0 m 1228 ls [])) : W p l e room_1 s m args below meth c H locs cells slots Q (F0 m 976 ls []) := by
  have hx := Z.1.1.1
  have hb := Z.1.1.2.1
  obtain ⟨r, mc1, mm1, h9, h10, hI2⟩ := hs mc mm hI (xs (nI j + nI 1).toNatClampNeg)
  refine lv_aload_n hx hb dL_law_976 rfl (lv_at hl 1 rfl) ?_
  refine lv_aload_n hx hb dL_law_977 rfl (lv_at hl 0 rfl) ?_
  refine lv_iload_n hx hb dL_law_978 rfl (lv_at hl 3 rfl) ?_
  refine lv_iconst (v := nI 1) hx hb dL_law_979 (by decide) ?_
  refine lv_iadd hx hb dL_law_980 ?_
  refine va_sld hx hb Z.2.1 Z.2.2.1 Z.2.2.2.1 hS (law_in hj Z.2.2.2.2.1 (by decide)) dL_law_981 ?_
  refine x_LI (rest := []) Z.1 hP hS (kX9_lose l g _ mc mm _ h9) (isO_w ck_0) (ci := 9) (by decide) rfl rfl mf_X9_lose mv_X9_lose wd_39_21 rfl rfl hl.1 (Nat.le_of_ble_eq_true rfl) ⟨Nat.le_of_ble_eq_true rfl, Nat.le_of_ble_eq_true rfl⟩ dL_law_982 ⟨Z.2.2.2.2.2.1, Z.2.2.2.2.2.2⟩ (fun H locs hP hS => ?_)
  refine lv_aload_n hx hb dL_law_985 rfl (lv_at hl 2 rfl) ?_
  refine lv_aload_n hx hb dL_law_986 rfl (lv_at hl 0 rfl) ?_
  refine lv_iload_n hx hb dL_law_987 rfl (lv_at hl 3 rfl) ?_
  refine lv_iconst (v := nI 1) hx hb dL_law_988 (by decide) ?_
  refine lv_iadd hx hb dL_law_989 ?_
  refine va_sld hx hb Z.2.1 Z.2.2.1 Z.2.2.2.1 hS (law_in hj Z.2.2.2.2.1 (by decide)) dL_law_990 ?_
  refine x_LI (rest := [.int r]) Z.1 hP hS (kX10_lose l g _ mc1 mm _ h10) (mO) (ci := 10) (by decide) rfl rfl mf_X10_lose mv_X10_lose wd_40_1 rfl rfl hl.1 (Nat.le_of_ble_eq_true rfl) ⟨Nat.le_of_ble_eq_true rfl, Nat.le_of_ble_eq_true rfl⟩ dL_law_991 ⟨Z.2.2.2.2.2.1, Z.2.2.2.2.2.2⟩ (fun H locs hP hS => ?_)
  refine lv_icmp_eq (tgt := 1228) hx hb dL_law_994 rfl (fun _ => ?_) (fun hc => absurd rfl hc)
  exact kk _ _ H locs hI2 hP hS
set_option maxHeartbeats 4000000 in
theorem lcase_28 {p : Program} {e : Env} {s : State} {m : MethodId} {args : Array Value} {below : List Frame} {meth : Method} {c : Code} {l : Launch} {g : GG} {b L : Nat} {xs : Nat → Int32} {cells slots : Nat} {Q : State → Prop} {H : Heap} {locs : List Loc} {ls : Array Slot} {mc mm : Mem} {j : Nat} (Inv : Mem → Mem → Prop) (hs : LS_28 Inv) (Z : LZ p s m args meth c l g b L xs cells slots) (hI : Inv mc mm) (hj : j + 6 ≤ L) (hl : lv_has ls 4 [(0, .ref b), (1, .ref (g.1 0)), (2, .ref (g.1 108)), (3, .int (nI j))]) (hP : va_P g.2.2.1 vwCl (wL g mc mm) H) (hS : va_S (AA g s.heap.size) s.heap H locs) (kk : ∀ (mc mm : Mem) (H : Heap) (locs : List Loc), Inv mc mm → va_P g.2.2.1 vwCl (wL g mc mm) H → va_S (AA g s.heap.size) s.heap H locs → W p l e room_1 s m args below meth c H locs cells slots Q (F0 m 1228 ls [])) : W p l e room_1 s m args below meth c H locs cells slots Q (F0 m 999 ls []) := by
  have hx := Z.1.1.1
  have hb := Z.1.1.2.1
  obtain ⟨r, mc1, mm1, h9, h10, hI2⟩ := hs mc mm hI (xs (nI j + nI 1).toNatClampNeg) (xs (nI j + nI 2).toNatClampNeg) (xs (nI j + nI 3).toNatClampNeg) (xs (nI j + nI 4).toNatClampNeg)
  refine lv_aload_n hx hb dL_law_999 rfl (lv_at hl 1 rfl) ?_
  refine lv_aload_n hx hb dL_law_1000 rfl (lv_at hl 0 rfl) ?_
  refine lv_iload_n hx hb dL_law_1001 rfl (lv_at hl 3 rfl) ?_
  refine lv_iconst (v := nI 1) hx hb dL_law_1002 (by decide) ?_
  refine lv_iadd hx hb dL_law_1003 ?_
  refine va_sld hx hb Z.2.1 Z.2.2.1 Z.2.2.2.1 hS (law_in hj Z.2.2.2.2.1 (by decide)) dL_law_1004 ?_
  refine lv_aload_n hx hb dL_law_1005 rfl (lv_at hl 0 rfl) ?_
  refine lv_iload_n hx hb dL_law_1006 rfl (lv_at hl 3 rfl) ?_
  refine lv_iconst (v := nI 2) hx hb dL_law_1007 (by decide) ?_
  refine lv_iadd hx hb dL_law_1008 ?_
  refine va_sld hx hb Z.2.1 Z.2.2.1 Z.2.2.2.1 hS (law_in hj Z.2.2.2.2.1 (by decide)) dL_law_1009 ?_
  refine lv_aload_n hx hb dL_law_1010 rfl (lv_at hl 0 rfl) ?_
  refine lv_iload_n hx hb dL_law_1011 rfl (lv_at hl 3 rfl) ?_
  refine lv_iconst (v := nI 3) hx hb dL_law_1012 (by decide) ?_
  refine lv_iadd hx hb dL_law_1013 ?_
  refine va_sld hx hb Z.2.1 Z.2.2.1 Z.2.2.2.1 hS (law_in hj Z.2.2.2.2.1 (by decide)) dL_law_1014 ?_
  refine lv_aload_n hx hb dL_law_1015 rfl (lv_at hl 0 rfl) ?_
  refine lv_iload_n hx hb dL_law_1016 rfl (lv_at hl 3 rfl) ?_
  refine lv_iconst (v := nI 4) hx hb dL_law_1017 (by decide) ?_
  refine lv_iadd hx hb dL_law_1018 ?_
  refine va_sld hx hb Z.2.1 Z.2.2.1 Z.2.2.2.1 hS (law_in hj Z.2.2.2.2.1 (by decide)) dL_law_1019 ?_
  refine x_LI (rest := []) Z.1 hP hS (kX9_lay l g _ _ _ _ mc mm _ h9) (isO_w ck_0) (ci := 9) (by decide) rfl rfl mf_X9_lay mv_X9_lay wd_40_5 rfl rfl hl.1 (Nat.le_of_ble_eq_true rfl) ⟨Nat.le_of_ble_eq_true rfl, Nat.le_of_ble_eq_true rfl⟩ dL_law_1020 ⟨Z.2.2.2.2.2.1, Z.2.2.2.2.2.2⟩ (fun H locs hP hS => ?_)
  refine lv_aload_n hx hb dL_law_1023 rfl (lv_at hl 2 rfl) ?_
  refine lv_aload_n hx hb dL_law_1024 rfl (lv_at hl 0 rfl) ?_
  refine lv_iload_n hx hb dL_law_1025 rfl (lv_at hl 3 rfl) ?_
  refine lv_iconst (v := nI 1) hx hb dL_law_1026 (by decide) ?_
  refine lv_iadd hx hb dL_law_1027 ?_
  refine va_sld hx hb Z.2.1 Z.2.2.1 Z.2.2.2.1 hS (law_in hj Z.2.2.2.2.1 (by decide)) dL_law_1028 ?_
  refine lv_aload_n hx hb dL_law_1029 rfl (lv_at hl 0 rfl) ?_
  refine lv_iload_n hx hb dL_law_1030 rfl (lv_at hl 3 rfl) ?_
  refine lv_iconst (v := nI 2) hx hb dL_law_1031 (by decide) ?_
  refine lv_iadd hx hb dL_law_1032 ?_
  refine va_sld hx hb Z.2.1 Z.2.2.1 Z.2.2.2.1 hS (law_in hj Z.2.2.2.2.1 (by decide)) dL_law_1033 ?_
  refine lv_aload_n hx hb dL_law_1034 rfl (lv_at hl 0 rfl) ?_
  refine lv_iload_n hx hb dL_law_1035 rfl (lv_at hl 3 rfl) ?_
  refine lv_iconst (v := nI 3) hx hb dL_law_1036 (by decide) ?_
  refine lv_iadd hx hb dL_law_1037 ?_
  refine va_sld hx hb Z.2.1 Z.2.2.1 Z.2.2.2.1 hS (law_in hj Z.2.2.2.2.1 (by decide)) dL_law_1038 ?_
  refine lv_aload_n hx hb dL_law_1039 rfl (lv_at hl 0 rfl) ?_
  refine lv_iload_n hx hb dL_law_1040 rfl (lv_at hl 3 rfl) ?_
  refine lv_iconst (v := nI 4) hx hb dL_law_1041 (by decide) ?_
  refine lv_iadd hx hb dL_law_1042 ?_
  refine va_sld hx hb Z.2.1 Z.2.2.1 Z.2.2.2.1 hS (law_in hj Z.2.2.2.2.1 (by decide)) dL_law_1043 ?_
  refine x_LI (rest := [.int r]) Z.1 hP hS (kX10_lay l g _ _ _ _ mc1 mm _ h10) (mO) (ci := 10) (by decide) rfl rfl mf_X10_lay mv_X10_lay wd_40_16 rfl rfl hl.1 (Nat.le_of_ble_eq_true rfl) ⟨Nat.le_of_ble_eq_true rfl, Nat.le_of_ble_eq_true rfl⟩ dL_law_1044 ⟨Z.2.2.2.2.2.1, Z.2.2.2.2.2.2⟩ (fun H locs hP hS => ?_)
  refine lv_icmp_eq (tgt := 1228) hx hb dL_law_1047 rfl (fun _ => ?_) (fun hc => absurd rfl hc)
  exact kk _ _ H locs hI2 hP hS
set_option maxHeartbeats 4000000 in
theorem lcase_29 {p : Program} {e : Env} {s : State} {m : MethodId} {args : Array Value} {below : List Frame} {meth : Method} {c : Code} {l : Launch} {g : GG} {b L : Nat} {xs : Nat → Int32} {cells slots : Nat} {Q : State → Prop} {H : Heap} {locs : List Loc} {ls : Array Slot} {mc mm : Mem} {j : Nat} (Inv : Mem → Mem → Prop) (hs : LS_29 Inv) (Z : LZ p s m args meth c l g b L xs cells slots) (hI : Inv mc mm) (hj : j + 6 ≤ L) (hl : lv_has ls 4 [(0, .ref b), (1, .ref (g.1 0)), (2, .ref (g.1 108)), (3, .int (nI j))]) (hP : va_P g.2.2.1 vwCl (wL g mc mm) H) (hS : va_S (AA g s.heap.size) s.heap H locs) (kk : ∀ (mc mm : Mem) (H : Heap) (locs : List Loc), Inv mc mm → va_P g.2.2.1 vwCl (wL g mc mm) H → va_S (AA g s.heap.size) s.heap H locs → W p l e room_1 s m args below meth c H locs cells slots Q (F0 m 1228 ls [])) : W p l e room_1 s m args below meth c H locs cells slots Q (F0 m 1052 ls []) := by
  have hx := Z.1.1.1
  have hb := Z.1.1.2.1
  obtain ⟨r, mc1, mm1, h9, h10, hI2⟩ := hs mc mm hI (xs (nI j + nI 1).toNatClampNeg) (xs (nI j + nI 2).toNatClampNeg) (xs (nI j + nI 3).toNatClampNeg)
  refine lv_aload_n hx hb dL_law_1052 rfl (lv_at hl 1 rfl) ?_
  refine lv_aload_n hx hb dL_law_1053 rfl (lv_at hl 0 rfl) ?_
  refine lv_iload_n hx hb dL_law_1054 rfl (lv_at hl 3 rfl) ?_
  refine lv_iconst (v := nI 1) hx hb dL_law_1055 (by decide) ?_
  refine lv_iadd hx hb dL_law_1056 ?_
  refine va_sld hx hb Z.2.1 Z.2.2.1 Z.2.2.2.1 hS (law_in hj Z.2.2.2.2.1 (by decide)) dL_law_1057 ?_
  refine lv_aload_n hx hb dL_law_1058 rfl (lv_at hl 0 rfl) ?_
  refine lv_iload_n hx hb dL_law_1059 rfl (lv_at hl 3 rfl) ?_
  refine lv_iconst (v := nI 2) hx hb dL_law_1060 (by decide) ?_
  refine lv_iadd hx hb dL_law_1061 ?_
  refine va_sld hx hb Z.2.1 Z.2.2.1 Z.2.2.2.1 hS (law_in hj Z.2.2.2.2.1 (by decide)) dL_law_1062 ?_
  refine lv_aload_n hx hb dL_law_1063 rfl (lv_at hl 0 rfl) ?_
  refine lv_iload_n hx hb dL_law_1064 rfl (lv_at hl 3 rfl) ?_
  refine lv_iconst (v := nI 3) hx hb dL_law_1065 (by decide) ?_
  refine lv_iadd hx hb dL_law_1066 ?_
  refine va_sld hx hb Z.2.1 Z.2.2.1 Z.2.2.2.1 hS (law_in hj Z.2.2.2.2.1 (by decide)) dL_law_1067 ?_
  refine x_LI (rest := []) Z.1 hP hS (kX9_get l g _ _ _ mc mm _ h9) (isO_w ck_0) (ci := 9) (by decide) rfl rfl mf_X9_get mv_X9_get wd_41_3 rfl rfl hl.1 (Nat.le_of_ble_eq_true rfl) ⟨Nat.le_of_ble_eq_true rfl, Nat.le_of_ble_eq_true rfl⟩ dL_law_1068 ⟨Z.2.2.2.2.2.1, Z.2.2.2.2.2.2⟩ (fun H locs hP hS => ?_)
  refine lv_aload_n hx hb dL_law_1071 rfl (lv_at hl 2 rfl) ?_
  refine lv_aload_n hx hb dL_law_1072 rfl (lv_at hl 0 rfl) ?_
  refine lv_iload_n hx hb dL_law_1073 rfl (lv_at hl 3 rfl) ?_
  refine lv_iconst (v := nI 1) hx hb dL_law_1074 (by decide) ?_
  refine lv_iadd hx hb dL_law_1075 ?_
  refine va_sld hx hb Z.2.1 Z.2.2.1 Z.2.2.2.1 hS (law_in hj Z.2.2.2.2.1 (by decide)) dL_law_1076 ?_
  refine lv_aload_n hx hb dL_law_1077 rfl (lv_at hl 0 rfl) ?_
  refine lv_iload_n hx hb dL_law_1078 rfl (lv_at hl 3 rfl) ?_
  refine lv_iconst (v := nI 2) hx hb dL_law_1079 (by decide) ?_
  refine lv_iadd hx hb dL_law_1080 ?_
  refine va_sld hx hb Z.2.1 Z.2.2.1 Z.2.2.2.1 hS (law_in hj Z.2.2.2.2.1 (by decide)) dL_law_1081 ?_
  refine lv_aload_n hx hb dL_law_1082 rfl (lv_at hl 0 rfl) ?_
  refine lv_iload_n hx hb dL_law_1083 rfl (lv_at hl 3 rfl) ?_
  refine lv_iconst (v := nI 3) hx hb dL_law_1084 (by decide) ?_
  refine lv_iadd hx hb dL_law_1085 ?_
  refine va_sld hx hb Z.2.1 Z.2.2.1 Z.2.2.2.1 hS (law_in hj Z.2.2.2.2.1 (by decide)) dL_law_1086 ?_
  refine x_LI (rest := [.int r]) Z.1 hP hS (kX10_get l g _ _ _ mc1 mm _ h10) (mO) (ci := 10) (by decide) rfl rfl mf_X10_get mv_X10_get wd_41_8 rfl rfl hl.1 (Nat.le_of_ble_eq_true rfl) ⟨Nat.le_of_ble_eq_true rfl, Nat.le_of_ble_eq_true rfl⟩ dL_law_1087 ⟨Z.2.2.2.2.2.1, Z.2.2.2.2.2.2⟩ (fun H locs hP hS => ?_)
  refine lv_icmp_eq (tgt := 1228) hx hb dL_law_1090 rfl (fun _ => ?_) (fun hc => absurd rfl hc)
  exact kk _ _ H locs hI2 hP hS
set_option maxHeartbeats 4000000 in
theorem lcase_30 {p : Program} {e : Env} {s : State} {m : MethodId} {args : Array Value} {below : List Frame} {meth : Method} {c : Code} {l : Launch} {g : GG} {b L : Nat} {xs : Nat → Int32} {cells slots : Nat} {Q : State → Prop} {H : Heap} {locs : List Loc} {ls : Array Slot} {mc mm : Mem} {j : Nat} (Inv : Mem → Mem → Prop) (hs : LS_30 Inv) (Z : LZ p s m args meth c l g b L xs cells slots) (hI : Inv mc mm) (hj : j + 6 ≤ L) (hl : lv_has ls 4 [(0, .ref b), (1, .ref (g.1 0)), (2, .ref (g.1 108)), (3, .int (nI j))]) (hP : va_P g.2.2.1 vwCl (wL g mc mm) H) (hS : va_S (AA g s.heap.size) s.heap H locs) (kk : ∀ (mc mm : Mem) (H : Heap) (locs : List Loc), Inv mc mm → va_P g.2.2.1 vwCl (wL g mc mm) H → va_S (AA g s.heap.size) s.heap H locs → W p l e room_1 s m args below meth c H locs cells slots Q (F0 m 1228 ls [])) : W p l e room_1 s m args below meth c H locs cells slots Q (F0 m 1095 ls []) := by
  have hx := Z.1.1.1
  have hb := Z.1.1.2.1
  obtain ⟨r, mc1, mm1, h9, h10, hI2⟩ := hs mc mm hI (xs (nI j + nI 1).toNatClampNeg) (xs (nI j + nI 2).toNatClampNeg) (xs (nI j + nI 3).toNatClampNeg) (xs (nI j + nI 4).toNatClampNeg) (xs (nI j + nI 5).toNatClampNeg)
  refine lv_aload_n hx hb dL_law_1095 rfl (lv_at hl 1 rfl) ?_
  refine lv_aload_n hx hb dL_law_1096 rfl (lv_at hl 0 rfl) ?_
  refine lv_iload_n hx hb dL_law_1097 rfl (lv_at hl 3 rfl) ?_
  refine lv_iconst (v := nI 1) hx hb dL_law_1098 (by decide) ?_
  refine lv_iadd hx hb dL_law_1099 ?_
  refine va_sld hx hb Z.2.1 Z.2.2.1 Z.2.2.2.1 hS (law_in hj Z.2.2.2.2.1 (by decide)) dL_law_1100 ?_
  refine lv_aload_n hx hb dL_law_1101 rfl (lv_at hl 0 rfl) ?_
  refine lv_iload_n hx hb dL_law_1102 rfl (lv_at hl 3 rfl) ?_
  refine lv_iconst (v := nI 2) hx hb dL_law_1103 (by decide) ?_
  refine lv_iadd hx hb dL_law_1104 ?_
  refine va_sld hx hb Z.2.1 Z.2.2.1 Z.2.2.2.1 hS (law_in hj Z.2.2.2.2.1 (by decide)) dL_law_1105 ?_
  refine lv_aload_n hx hb dL_law_1106 rfl (lv_at hl 0 rfl) ?_
  refine lv_iload_n hx hb dL_law_1107 rfl (lv_at hl 3 rfl) ?_
  refine lv_iconst (v := nI 3) hx hb dL_law_1108 (by decide) ?_
  refine lv_iadd hx hb dL_law_1109 ?_
  refine va_sld hx hb Z.2.1 Z.2.2.1 Z.2.2.2.1 hS (law_in hj Z.2.2.2.2.1 (by decide)) dL_law_1110 ?_
  refine lv_aload_n hx hb dL_law_1111 rfl (lv_at hl 0 rfl) ?_
  refine lv_iload_n hx hb dL_law_1112 rfl (lv_at hl 3 rfl) ?_
  refine lv_iconst (v := nI 4) hx hb dL_law_1113 (by decide) ?_
  refine lv_iadd hx hb dL_law_1114 ?_
  refine va_sld hx hb Z.2.1 Z.2.2.1 Z.2.2.2.1 hS (law_in hj Z.2.2.2.2.1 (by decide)) dL_law_1115 ?_
  refine lv_aload_n hx hb dL_law_1116 rfl (lv_at hl 0 rfl) ?_
  refine lv_iload_n hx hb dL_law_1117 rfl (lv_at hl 3 rfl) ?_
  refine lv_iconst (v := nI 5) hx hb dL_law_1118 (by decide) ?_
  refine lv_iadd hx hb dL_law_1119 ?_
  refine va_sld hx hb Z.2.1 Z.2.2.1 Z.2.2.2.1 hS (law_in hj Z.2.2.2.2.1 (by decide)) dL_law_1120 ?_
  refine x_LI (rest := []) Z.1 hP hS (kX9_copy l g _ _ _ _ _ mc mm _ h9) (isO_w ck_0) (ci := 9) (by decide) rfl rfl mf_X9_copy mv_X9_copy wd_41_13 rfl rfl hl.1 (Nat.le_of_ble_eq_true rfl) ⟨Nat.le_of_ble_eq_true rfl, Nat.le_of_ble_eq_true rfl⟩ dL_law_1121 ⟨Z.2.2.2.2.2.1, Z.2.2.2.2.2.2⟩ (fun H locs hP hS => ?_)
  refine lv_aload_n hx hb dL_law_1124 rfl (lv_at hl 2 rfl) ?_
  refine lv_aload_n hx hb dL_law_1125 rfl (lv_at hl 0 rfl) ?_
  refine lv_iload_n hx hb dL_law_1126 rfl (lv_at hl 3 rfl) ?_
  refine lv_iconst (v := nI 1) hx hb dL_law_1127 (by decide) ?_
  refine lv_iadd hx hb dL_law_1128 ?_
  refine va_sld hx hb Z.2.1 Z.2.2.1 Z.2.2.2.1 hS (law_in hj Z.2.2.2.2.1 (by decide)) dL_law_1129 ?_
  refine lv_aload_n hx hb dL_law_1130 rfl (lv_at hl 0 rfl) ?_
  refine lv_iload_n hx hb dL_law_1131 rfl (lv_at hl 3 rfl) ?_
  refine lv_iconst (v := nI 2) hx hb dL_law_1132 (by decide) ?_
  refine lv_iadd hx hb dL_law_1133 ?_
  refine va_sld hx hb Z.2.1 Z.2.2.1 Z.2.2.2.1 hS (law_in hj Z.2.2.2.2.1 (by decide)) dL_law_1134 ?_
  refine lv_aload_n hx hb dL_law_1135 rfl (lv_at hl 0 rfl) ?_
  refine lv_iload_n hx hb dL_law_1136 rfl (lv_at hl 3 rfl) ?_
  refine lv_iconst (v := nI 3) hx hb dL_law_1137 (by decide) ?_
  refine lv_iadd hx hb dL_law_1138 ?_
  refine va_sld hx hb Z.2.1 Z.2.2.1 Z.2.2.2.1 hS (law_in hj Z.2.2.2.2.1 (by decide)) dL_law_1139 ?_
  refine lv_aload_n hx hb dL_law_1140 rfl (lv_at hl 0 rfl) ?_
  refine lv_iload_n hx hb dL_law_1141 rfl (lv_at hl 3 rfl) ?_
  refine lv_iconst (v := nI 4) hx hb dL_law_1142 (by decide) ?_
  refine lv_iadd hx hb dL_law_1143 ?_
  refine va_sld hx hb Z.2.1 Z.2.2.1 Z.2.2.2.1 hS (law_in hj Z.2.2.2.2.1 (by decide)) dL_law_1144 ?_
  refine lv_aload_n hx hb dL_law_1145 rfl (lv_at hl 0 rfl) ?_
  refine lv_iload_n hx hb dL_law_1146 rfl (lv_at hl 3 rfl) ?_
  refine lv_iconst (v := nI 5) hx hb dL_law_1147 (by decide) ?_
  refine lv_iadd hx hb dL_law_1148 ?_
  refine va_sld hx hb Z.2.1 Z.2.2.1 Z.2.2.2.1 hS (law_in hj Z.2.2.2.2.1 (by decide)) dL_law_1149 ?_
  refine x_LI (rest := [.int r]) Z.1 hP hS (kX10_copy l g _ _ _ _ _ mc1 mm _ h10) (mO) (ci := 10) (by decide) rfl rfl mf_X10_copy mv_X10_copy wd_42_1 rfl rfl hl.1 (Nat.le_of_ble_eq_true rfl) ⟨Nat.le_of_ble_eq_true rfl, Nat.le_of_ble_eq_true rfl⟩ dL_law_1150 ⟨Z.2.2.2.2.2.1, Z.2.2.2.2.2.2⟩ (fun H locs hP hS => ?_)
  refine lv_icmp_eq (tgt := 1228) hx hb dL_law_1153 rfl (fun _ => ?_) (fun hc => absurd rfl hc)
  exact kk _ _ H locs hI2 hP hS
set_option maxHeartbeats 4000000 in
theorem lcase_31 {p : Program} {e : Env} {s : State} {m : MethodId} {args : Array Value} {below : List Frame} {meth : Method} {c : Code} {l : Launch} {g : GG} {b L : Nat} {xs : Nat → Int32} {cells slots : Nat} {Q : State → Prop} {H : Heap} {locs : List Loc} {ls : Array Slot} {mc mm : Mem} {j : Nat} (Inv : Mem → Mem → Prop) (hs : LS_31 Inv) (Z : LZ p s m args meth c l g b L xs cells slots) (hI : Inv mc mm) (hj : j + 6 ≤ L) (hl : lv_has ls 4 [(0, .ref b), (1, .ref (g.1 0)), (2, .ref (g.1 108)), (3, .int (nI j))]) (hP : va_P g.2.2.1 vwCl (wL g mc mm) H) (hS : va_S (AA g s.heap.size) s.heap H locs) (kk : ∀ (mc mm : Mem) (H : Heap) (locs : List Loc), Inv mc mm → va_P g.2.2.1 vwCl (wL g mc mm) H → va_S (AA g s.heap.size) s.heap H locs → W p l e room_1 s m args below meth c H locs cells slots Q (F0 m 1228 ls [])) : W p l e room_1 s m args below meth c H locs cells slots Q (F0 m 1158 ls []) := by
  have hx := Z.1.1.1
  have hb := Z.1.1.2.1
  obtain ⟨r, mc1, mm1, h9, h10, hI2⟩ := hs mc mm hI (xs (nI j + nI 1).toNatClampNeg) (xs (nI j + nI 2).toNatClampNeg)
  refine lv_aload_n hx hb dL_law_1158 rfl (lv_at hl 1 rfl) ?_
  refine lv_aload_n hx hb dL_law_1159 rfl (lv_at hl 0 rfl) ?_
  refine lv_iload_n hx hb dL_law_1160 rfl (lv_at hl 3 rfl) ?_
  refine lv_iconst (v := nI 1) hx hb dL_law_1161 (by decide) ?_
  refine lv_iadd hx hb dL_law_1162 ?_
  refine va_sld hx hb Z.2.1 Z.2.2.1 Z.2.2.2.1 hS (law_in hj Z.2.2.2.2.1 (by decide)) dL_law_1163 ?_
  refine lv_aload_n hx hb dL_law_1164 rfl (lv_at hl 0 rfl) ?_
  refine lv_iload_n hx hb dL_law_1165 rfl (lv_at hl 3 rfl) ?_
  refine lv_iconst (v := nI 2) hx hb dL_law_1166 (by decide) ?_
  refine lv_iadd hx hb dL_law_1167 ?_
  refine va_sld hx hb Z.2.1 Z.2.2.1 Z.2.2.2.1 hS (law_in hj Z.2.2.2.2.1 (by decide)) dL_law_1168 ?_
  refine x_LI (rest := []) Z.1 hP hS (kX9_write l g _ _ mc mm _ h9) (isO_w ck_0) (ci := 9) (by decide) rfl rfl mf_X9_write mv_X9_write wd_42_5 rfl rfl hl.1 (Nat.le_of_ble_eq_true rfl) ⟨Nat.le_of_ble_eq_true rfl, Nat.le_of_ble_eq_true rfl⟩ dL_law_1169 ⟨Z.2.2.2.2.2.1, Z.2.2.2.2.2.2⟩ (fun H locs hP hS => ?_)
  refine lv_aload_n hx hb dL_law_1172 rfl (lv_at hl 2 rfl) ?_
  refine lv_aload_n hx hb dL_law_1173 rfl (lv_at hl 0 rfl) ?_
  refine lv_iload_n hx hb dL_law_1174 rfl (lv_at hl 3 rfl) ?_
  refine lv_iconst (v := nI 1) hx hb dL_law_1175 (by decide) ?_
  refine lv_iadd hx hb dL_law_1176 ?_
  refine va_sld hx hb Z.2.1 Z.2.2.1 Z.2.2.2.1 hS (law_in hj Z.2.2.2.2.1 (by decide)) dL_law_1177 ?_
  refine lv_aload_n hx hb dL_law_1178 rfl (lv_at hl 0 rfl) ?_
  refine lv_iload_n hx hb dL_law_1179 rfl (lv_at hl 3 rfl) ?_
  refine lv_iconst (v := nI 2) hx hb dL_law_1180 (by decide) ?_
  refine lv_iadd hx hb dL_law_1181 ?_
  refine va_sld hx hb Z.2.1 Z.2.2.1 Z.2.2.2.1 hS (law_in hj Z.2.2.2.2.1 (by decide)) dL_law_1182 ?_
  refine x_LI (rest := [.int r]) Z.1 hP hS (kX10_write l g _ _ mc1 mm _ h10) (mO) (ci := 10) (by decide) rfl rfl mf_X10_write mv_X10_write wd_42_10 rfl rfl hl.1 (Nat.le_of_ble_eq_true rfl) ⟨Nat.le_of_ble_eq_true rfl, Nat.le_of_ble_eq_true rfl⟩ dL_law_1183 ⟨Z.2.2.2.2.2.1, Z.2.2.2.2.2.2⟩ (fun H locs hP hS => ?_)
  refine lv_icmp_eq (tgt := 1228) hx hb dL_law_1186 rfl (fun _ => ?_) (fun hc => absurd rfl hc)
  exact kk _ _ H locs hI2 hP hS
set_option maxHeartbeats 4000000 in
theorem lcase_32 {p : Program} {e : Env} {s : State} {m : MethodId} {args : Array Value} {below : List Frame} {meth : Method} {c : Code} {l : Launch} {g : GG} {b L : Nat} {xs : Nat → Int32} {cells slots : Nat} {Q : State → Prop} {H : Heap} {locs : List Loc} {ls : Array Slot} {mc mm : Mem} {j : Nat} (Inv : Mem → Mem → Prop) (hs : LS_32 Inv) (Z : LZ p s m args meth c l g b L xs cells slots) (hI : Inv mc mm) (hj : j + 6 ≤ L) (hl : lv_has ls 4 [(0, .ref b), (1, .ref (g.1 0)), (2, .ref (g.1 108)), (3, .int (nI j))]) (hP : va_P g.2.2.1 vwCl (wL g mc mm) H) (hS : va_S (AA g s.heap.size) s.heap H locs) (kk : ∀ (mc mm : Mem) (H : Heap) (locs : List Loc), Inv mc mm → va_P g.2.2.1 vwCl (wL g mc mm) H → va_S (AA g s.heap.size) s.heap H locs → W p l e room_1 s m args below meth c H locs cells slots Q (F0 m 1228 ls [])) : W p l e room_1 s m args below meth c H locs cells slots Q (F0 m 1191 ls []) := by
  have hx := Z.1.1.1
  have hb := Z.1.1.2.1
  obtain ⟨r, mc1, mm1, h9, h10, hI2⟩ := hs mc mm hI (xs (nI j + nI 1).toNatClampNeg)
  refine lv_aload_n hx hb dL_law_1191 rfl (lv_at hl 1 rfl) ?_
  refine lv_aload_n hx hb dL_law_1192 rfl (lv_at hl 0 rfl) ?_
  refine lv_iload_n hx hb dL_law_1193 rfl (lv_at hl 3 rfl) ?_
  refine lv_iconst (v := nI 1) hx hb dL_law_1194 (by decide) ?_
  refine lv_iadd hx hb dL_law_1195 ?_
  refine va_sld hx hb Z.2.1 Z.2.2.1 Z.2.2.2.1 hS (law_in hj Z.2.2.2.2.1 (by decide)) dL_law_1196 ?_
  refine x_LI (rest := []) Z.1 hP hS (kX9_count l g _ mc mm _ h9) (isO_w ck_0) (ci := 9) (by decide) rfl rfl mf_X9_count mv_X9_count wd_42_14 rfl rfl hl.1 (Nat.le_of_ble_eq_true rfl) ⟨Nat.le_of_ble_eq_true rfl, Nat.le_of_ble_eq_true rfl⟩ dL_law_1197 ⟨Z.2.2.2.2.2.1, Z.2.2.2.2.2.2⟩ (fun H locs hP hS => ?_)
  refine lv_aload_n hx hb dL_law_1200 rfl (lv_at hl 2 rfl) ?_
  refine lv_aload_n hx hb dL_law_1201 rfl (lv_at hl 0 rfl) ?_
  refine lv_iload_n hx hb dL_law_1202 rfl (lv_at hl 3 rfl) ?_
  refine lv_iconst (v := nI 1) hx hb dL_law_1203 (by decide) ?_
  refine lv_iadd hx hb dL_law_1204 ?_
  refine va_sld hx hb Z.2.1 Z.2.2.1 Z.2.2.2.1 hS (law_in hj Z.2.2.2.2.1 (by decide)) dL_law_1205 ?_
  refine x_LI (rest := [.int r]) Z.1 hP hS (kX10_count l g _ mc1 mm _ h10) (mO) (ci := 10) (by decide) rfl rfl mf_X10_count mv_X10_count wd_43_2 rfl rfl hl.1 (Nat.le_of_ble_eq_true rfl) ⟨Nat.le_of_ble_eq_true rfl, Nat.le_of_ble_eq_true rfl⟩ dL_law_1206 ⟨Z.2.2.2.2.2.1, Z.2.2.2.2.2.2⟩ (fun H locs hP hS => ?_)
  refine lv_icmp_eq (tgt := 1228) hx hb dL_law_1209 rfl (fun _ => ?_) (fun hc => absurd rfl hc)
  exact kk _ _ H locs hI2 hP hS
set_option maxHeartbeats 4000000 in
theorem lcase_33 {p : Program} {e : Env} {s : State} {m : MethodId} {args : Array Value} {below : List Frame} {meth : Method} {c : Code} {l : Launch} {g : GG} {b L : Nat} {xs : Nat → Int32} {cells slots : Nat} {Q : State → Prop} {H : Heap} {locs : List Loc} {ls : Array Slot} {mc mm : Mem} {j : Nat} (Inv : Mem → Mem → Prop) (hs : LS_33 Inv) (Z : LZ p s m args meth c l g b L xs cells slots) (hI : Inv mc mm) (hj : j + 6 ≤ L) (hl : lv_has ls 4 [(0, .ref b), (1, .ref (g.1 0)), (2, .ref (g.1 108)), (3, .int (nI j))]) (hP : va_P g.2.2.1 vwCl (wL g mc mm) H) (hS : va_S (AA g s.heap.size) s.heap H locs) (kk : ∀ (mc mm : Mem) (H : Heap) (locs : List Loc), Inv mc mm → va_P g.2.2.1 vwCl (wL g mc mm) H → va_S (AA g s.heap.size) s.heap H locs → W p l e room_1 s m args below meth c H locs cells slots Q (F0 m 1228 ls [])) : W p l e room_1 s m args below meth c H locs cells slots Q (F0 m 1214 ls []) := by
  have hx := Z.1.1.1
  have hb := Z.1.1.2.1
  obtain ⟨r, mc1, mm1, h9, h10, hI2⟩ := hs mc mm hI
  refine lv_aload_n hx hb dL_law_1214 rfl (lv_at hl 1 rfl) ?_
  refine x_LL (rest := []) Z.1 hP hS (kX9_digest l g mc mm _ h9) (isO_w ck_0) (ci := 9) (by decide) rfl rfl mf_X9_digest mv_X9_digest wd_43_10 rfl rfl hl.1 (Nat.le_of_ble_eq_true rfl) ⟨Nat.le_of_ble_eq_true rfl, Nat.le_of_ble_eq_true rfl⟩ dL_law_1215 ⟨Z.2.2.2.2.2.1, Z.2.2.2.2.2.2⟩ (fun H locs hP hS => ?_)
  refine lv_aload_n hx hb dL_law_1218 rfl (lv_at hl 2 rfl) ?_
  refine x_LL (rest := [.long r]) Z.1 hP hS (kX10_digest l g mc1 mm _ h10) (mO) (ci := 10) (by decide) rfl rfl mf_X10_digest mv_X10_digest wd_44_22 rfl rfl hl.1 (Nat.le_of_ble_eq_true rfl) ⟨Nat.le_of_ble_eq_true rfl, Nat.le_of_ble_eq_true rfl⟩ dL_law_1219 ⟨Z.2.2.2.2.2.1, Z.2.2.2.2.2.2⟩ (fun H locs hP hS => ?_)
  refine W.lcmp hx hb dL_law_1222 ?_
  rw [lg_self]
  refine lv_if_eq (tgt := 1228) hx hb dL_law_1223 rfl (fun _ => ?_) (fun hc => absurd rfl hc)
  exact kk _ _ H locs hI2 hP hS

theorem dJ1_canEncode_9a6ad_0 : decode cJ1_canEncode_9a6ad 0 = .ok (.iload_n 0, 1) := by decide +kernel
theorem dJ1_canEncode_9a6ad_1 : decode cJ1_canEncode_9a6ad 1 = .ok (.ifCond .lt 14, 3) := by decide +kernel
theorem dJ1_canEncode_9a6ad_4 : decode cJ1_canEncode_9a6ad 4 = .ok (.iload_n 0, 1) := by decide +kernel
theorem dJ1_canEncode_9a6ad_5 : decode cJ1_canEncode_9a6ad 5 = .ok (.sipush 255, 3) := by decide +kernel
theorem dJ1_canEncode_9a6ad_8 : decode cJ1_canEncode_9a6ad 8 = .ok (.if_icmp .gt 7, 3) := by decide +kernel
theorem dJ1_canEncode_9a6ad_11 : decode cJ1_canEncode_9a6ad 11 = .ok (.iconst 1, 1) := by decide +kernel
theorem dJ1_canEncode_9a6ad_12 : decode cJ1_canEncode_9a6ad 12 = .ok (.goto 4, 3) := by decide +kernel
theorem dJ1_canEncode_9a6ad_15 : decode cJ1_canEncode_9a6ad 15 = .ok (.iconst 0, 1) := by decide +kernel
theorem dJ1_canEncode_9a6ad_16 : decode cJ1_canEncode_9a6ad 16 = .ok (.ireturn, 1) := by decide +kernel
noncomputable def F1_canEncode_9a6ad_b15 (v0 : Int32) : Option (Int32) :=
  some (0 : Int32)
noncomputable def F1_canEncode_9a6ad (v0 : Int32) : Option (Int32) :=
  (if v0 < (0 : Int32) then (F1_canEncode_9a6ad_b15 v0) else (if (255 : Int32) < v0 then (F1_canEncode_9a6ad_b15 v0) else some (1 : Int32)))
set_option maxHeartbeats 4000000 in
set_option maxRecDepth 100000 in
theorem kJ1_canEncode_9a6ad (l : Launch) (g : GG) (v0 : Int32) (mc mm : Mem) (q : Int32) (hF : F1_canEncode_9a6ad v0 = some q) : KI l yJ1_canEncode_9a6ad cJ1_canEncode_9a6ad 1 .boolean 0 0 g [.int v0] mc mm q (mc, mm) := by
  intro sz
  refine x_start (Qc := fun z => QI g z q (mc, mm)) (by decide +kernel) (Nat.le_of_ble_eq_true rfl) ?_ sz
  intro p e s m args below meth c ls Z hr hlk hP hl
  have hx := Z.1.1
  have hb := Z.1.2.1
  have hown := Z.1.2.2.2.1
  have hts := Z.1.2.2.2.2
  have hS : va_S (AA g s.heap.size) s.heap s.heap [] := va_S.rf
  have hl : lv_has ls 1 [(0, .int v0)] := hl
  unfold F1_canEncode_9a6ad at hF
  have hb15 : F1_canEncode_9a6ad_b15 v0 = some q → ∀ (H : Heap) (locs : List Loc) (ls : Array Slot), lv_has ls 1 [] → va_P g.2.2.1 vwCl (wL g mc mm) H → va_S (AA g s.heap.size) s.heap H locs → W p l e { frames := 0, cells := 0, slots := 0, locals := 0 } s m args below meth c H locs 0 0 (MQ below (QI g s.heap.size q (mc, mm)) args s 0 0 (AA g s.heap.size)) (F0 m 15 ls []) := by
    intro hF H locs ls hl hP hS
    unfold F1_canEncode_9a6ad_b15 at hF
    refine lv_iconst (v := (0 : Int32)) hx hb dJ1_canEncode_9a6ad_15 ic_0 ?_
    exact ret_Z Z hr hlk hP hS (Or.inl rfl) hF dJ1_canEncode_9a6ad_16
  refine lv_iload_n hx hb dJ1_canEncode_9a6ad_0 rfl (lv_at hl 0 rfl) ?_
  refine lv_if_lt (tgt := 15) hx hb dJ1_canEncode_9a6ad_1 rfl (fun hc => ?_) (fun hc => ?_)
  · have hF := (if_pos hc).symm.trans hF
    exact hb15  hF _ _ _ (lv_sub hl [] rfl) hP hS
  · have hF := (if_neg hc).symm.trans hF
    refine lv_iload_n hx hb dJ1_canEncode_9a6ad_4 rfl (lv_at hl 0 rfl) ?_
    refine lv_sipush (v := (255 : Int32)) hx hb dJ1_canEncode_9a6ad_5 sp_255 ?_
    refine lv_icmp_gt (tgt := 15) hx hb dJ1_canEncode_9a6ad_8 rfl (fun hc => ?_) (fun hc => ?_)
    · have hF := (if_pos hc).symm.trans hF
      exact hb15  hF _ _ _ (lv_sub hl [] rfl) hP hS
    · have hF := (if_neg hc).symm.trans hF
      refine lv_iconst (v := (1 : Int32)) hx hb dJ1_canEncode_9a6ad_11 ic_1 ?_
      refine lv_goto (tgt := 16) hx hb dJ1_canEncode_9a6ad_12 rfl ?_
      exact ret_Z Z hr hlk hP hS (Or.inr rfl) hF dJ1_canEncode_9a6ad_16
theorem xJ1_canEncode_9a6ad {p : Program} {l : Launch} {e : Env} {R : Room} {s : State} {m : MethodId} {args : Array Value} {below : List Frame} {meth : Method} {c : Code} {H : Heap} {locs : List Loc} {Q : State → Prop} {cc : ByteArray} {nL : Nat} {own : String} {g : GG} {pc index : Nat} {ls : Array Slot} {rest : List Value} {mc mm : Mem} (Z : ZZ p s m args c cc nL own g) (hP : va_P g.2.2.1 vwCl (wL g mc mm) H) (hS : va_S (AA g s.heap.size) s.heap H locs) {v0 : Int32} {q : Int32} (hq : F1_canEncode_9a6ad v0 = some q) (hlk : Cond.methodLink own index yJ1_canEncode_9a6ad ∈ wsL_law) (hsz : ls.size = nL) (hro : (rest.map fun v => v.category).sum ≤ 8) (hR : 0 + 1 ≤ R.frames ∧ 8 + (1 + 11) + 0 ≤ R.locals) (hdg : decode cc pc = .ok (.invokestatic index, 3)) (kk : ∀ (H : Heap) (locs : List Loc), va_P g.2.2.1 vwCl (wL g mc mm) H → va_S (AA g s.heap.size) s.heap H locs → W p l e R s m args below meth c H locs 0 0 Q (F0 m (pc + 3) ls (.int q :: rest))) : W p l e R s m args below meth c H locs 0 0 Q (F0 m pc ls (.int v0 :: rest)) :=
  x_SI Z hP hS (kJ1_canEncode_9a6ad l g v0 mc mm q hq) mf_J1_canEncode_9a6ad wd_9_17 hlk rfl rfl hsz hro hR hdg kk
theorem dJ1_indexOfChar_4cfef_0 : decode cJ1_indexOfChar_4cfef 0 = .ok (.iload_n 1, 1) := by decide +kernel
theorem dJ1_indexOfChar_4cfef_1 : decode cJ1_indexOfChar_4cfef 1 = .ok (.i2b, 1) := by decide +kernel
theorem dJ1_indexOfChar_4cfef_2 : decode cJ1_indexOfChar_4cfef 2 = .ok (.istore 4, 2) := by decide +kernel
theorem dJ1_indexOfChar_4cfef_4 : decode cJ1_indexOfChar_4cfef 4 = .ok (.iload_n 2, 1) := by decide +kernel
theorem dJ1_indexOfChar_4cfef_5 : decode cJ1_indexOfChar_4cfef 5 = .ok (.istore 5, 2) := by decide +kernel
theorem dJ1_indexOfChar_4cfef_7 : decode cJ1_indexOfChar_4cfef 7 = .ok (.iload 5, 2) := by decide +kernel
theorem dJ1_indexOfChar_4cfef_9 : decode cJ1_indexOfChar_4cfef 9 = .ok (.iload_n 3, 1) := by decide +kernel
theorem dJ1_indexOfChar_4cfef_10 : decode cJ1_indexOfChar_4cfef 10 = .ok (.if_icmp .ge 21, 3) := by decide +kernel
theorem dJ1_indexOfChar_4cfef_13 : decode cJ1_indexOfChar_4cfef 13 = .ok (.aload_n 0, 1) := by decide +kernel
theorem dJ1_indexOfChar_4cfef_14 : decode cJ1_indexOfChar_4cfef 14 = .ok (.iload 5, 2) := by decide +kernel
theorem dJ1_indexOfChar_4cfef_16 : decode cJ1_indexOfChar_4cfef 16 = .ok (.baload, 1) := by decide +kernel
theorem dJ1_indexOfChar_4cfef_17 : decode cJ1_indexOfChar_4cfef 17 = .ok (.iload 4, 2) := by decide +kernel
theorem dJ1_indexOfChar_4cfef_19 : decode cJ1_indexOfChar_4cfef 19 = .ok (.if_icmp .ne 6, 3) := by decide +kernel
theorem dJ1_indexOfChar_4cfef_22 : decode cJ1_indexOfChar_4cfef 22 = .ok (.iload 5, 2) := by decide +kernel
theorem dJ1_indexOfChar_4cfef_24 : decode cJ1_indexOfChar_4cfef 24 = .ok (.ireturn, 1) := by decide +kernel
theorem dJ1_indexOfChar_4cfef_25 : decode cJ1_indexOfChar_4cfef 25 = .ok (.iinc 5 1, 3) := by decide +kernel
theorem dJ1_indexOfChar_4cfef_28 : decode cJ1_indexOfChar_4cfef 28 = .ok (.goto (-21), 3) := by decide +kernel
theorem dJ1_indexOfChar_4cfef_31 : decode cJ1_indexOfChar_4cfef 31 = .ok (.iconst (-1), 1) := by decide +kernel
theorem dJ1_indexOfChar_4cfef_32 : decode cJ1_indexOfChar_4cfef 32 = .ok (.ireturn, 1) := by decide +kernel
noncomputable def F1_indexOfChar_4cfef_p7 (kh : Int32 → Int32 → Option (Int32)) (v0 : Nat) (v1 : Int32) (v2 : Int32) (v3 : Int32) (a4 : Int32) (a5 : Int32) : Option (Int32) :=
  (if v3 ≤ a5 then some (-1 : Int32) else (ck a5 (lenS.getD v0 0) (if ((bytS.getD v0 []).getD a5.toNatClampNeg 0) = a4 then some a5 else kh a4 (a5 + (1 : Int32)))))
noncomputable def F1_indexOfChar_4cfef_h7 (v0 : Nat) (v1 : Int32) (v2 : Int32) (v3 : Int32) : Nat → Int32 → Int32 → Option (Int32)
  | 0, _, _ => none
  | n + 1, a4, a5 => F1_indexOfChar_4cfef_p7 (F1_indexOfChar_4cfef_h7 v0 v1 v2 v3 n) v0 v1 v2 v3 a4 a5
noncomputable def F1_indexOfChar_4cfef (v0 : Nat) (v1 : Int32) (v2 : Int32) (v3 : Int32) : Option (Int32) :=
  (F1_indexOfChar_4cfef_h7 v0 v1 v2 v3 FU) v1.toInt8.toInt32 v2
set_option maxHeartbeats 4000000 in
set_option maxRecDepth 100000 in
theorem kJ1_indexOfChar_4cfef (l : Launch) (g : GG) (v0 : Nat) (v1 : Int32) (v2 : Int32) (v3 : Int32) (h0 : v0 < 7) (mc mm : Mem) (q : Int32) (hF : F1_indexOfChar_4cfef v0 v1 v2 v3 = some q) : KI l yJ1_indexOfChar_4cfef cJ1_indexOfChar_4cfef 6 .int 0 0 g [.ref (g.2.2.2.2 v0), .int v1, .int v2, .int v3] mc mm q (mc, mm) := by
  intro sz
  refine x_start (Qc := fun z => QI g z q (mc, mm)) (by decide +kernel) (Nat.le_of_ble_eq_true rfl) ?_ sz
  intro p e s m args below meth c ls Z hr hlk hP hl
  have hx := Z.1.1
  have hb := Z.1.2.1
  have hown := Z.1.2.2.2.1
  have hts := Z.1.2.2.2.2
  have hS : va_S (AA g s.heap.size) s.heap s.heap [] := va_S.rf
  have hl : lv_has ls 6 [(0, .ref (g.2.2.2.2 v0)), (1, .int v1), (2, .int v2), (3, .int v3)] := hl
  unfold F1_indexOfChar_4cfef at hF
  have hL7 : ∀ n : Nat, ∀ (a4 : Int32) (a5 : Int32), F1_indexOfChar_4cfef_h7 v0 v1 v2 v3 n a4 a5 = some q → ∀ (H : Heap) (locs : List Loc) (ls : Array Slot), lv_has ls 6 [(0, .ref (g.2.2.2.2 v0)), (3, .int v3), (4, .int a4), (5, .int a5)] → va_P g.2.2.1 vwCl (wL g mc mm) H → va_S (AA g s.heap.size) s.heap H locs → W p l e { frames := 0, cells := 0, slots := 0, locals := 0 } s m args below meth c H locs 0 0 (MQ below (QI g s.heap.size q (mc, mm)) args s 0 0 (AA g s.heap.size)) (F0 m 7 ls []) := by
    intro n
    induction n with
    | zero => intro a4 a5 hF H locs ls hl hP hS; exact absurd hF (fun z => nomatch (show (none : Option _) = some q from z))
    | succ n ih =>
      generalize hkh : F1_indexOfChar_4cfef_h7 v0 v1 v2 v3 n = kh at ih
      intro a4 a5 hF H locs ls hl hP hS
      have hF : F1_indexOfChar_4cfef_p7 (F1_indexOfChar_4cfef_h7 v0 v1 v2 v3 n) v0 v1 v2 v3 a4 a5 = some q := hF
      rw [hkh] at hF
      unfold F1_indexOfChar_4cfef_p7 at hF
      refine lv_iload hx hb dJ1_indexOfChar_4cfef_7 (lv_at hl 3 rfl) ?_
      refine lv_iload_n hx hb dJ1_indexOfChar_4cfef_9 rfl (lv_at hl 1 rfl) ?_
      refine lv_icmp_ge (tgt := 31) hx hb dJ1_indexOfChar_4cfef_10 rfl (fun hc => ?_) (fun hc => ?_)
      · have hF := (if_pos hc).symm.trans hF
        refine lv_iconst (v := (-1 : Int32)) hx hb dJ1_indexOfChar_4cfef_31 ic_m1 ?_
        exact ret_I Z hr hlk hP hS hF dJ1_indexOfChar_4cfef_32
      · have hF := (if_neg hc).symm.trans hF
        refine lv_aload_n hx hb dJ1_indexOfChar_4cfef_13 rfl (lv_at hl 0 rfl) ?_
        refine lv_iload hx hb dJ1_indexOfChar_4cfef_14 (lv_at hl 3 rfl) ?_
        obtain ⟨hi2, hF⟩ := ck_ok hF
        refine rs_ld Z hS h0 hi2 dJ1_indexOfChar_4cfef_16 ?_
        refine lv_iload hx hb dJ1_indexOfChar_4cfef_17 (lv_at hl 2 rfl) ?_
        refine lv_icmp_ne (tgt := 25) hx hb dJ1_indexOfChar_4cfef_19 rfl (fun hc => ?_) (fun hc => ?_)
        · have hF := (if_neg hc).symm.trans hF
          refine lv_iinc (lv' := [(5, .int (a5 + (1 : Int32))), (0, .ref (g.2.2.2.2 v0)), (3, .int v3), (4, .int a4)]) (v := (a5 + (1 : Int32))) hx hb dJ1_indexOfChar_4cfef_25 hl (k := 3) rfl (io_1 _) (Nat.le_of_ble_eq_true rfl) rfl (fun ls hl => ?_)
          refine lv_goto (tgt := 7) hx hb dJ1_indexOfChar_4cfef_28 rfl ?_
          exact ih _ _ hF _ _ _ (lv_sub hl [1, 2, 3, 0] rfl) hP hS
        · have hF := (if_pos hc).symm.trans hF
          refine lv_iload hx hb dJ1_indexOfChar_4cfef_22 (lv_at hl 3 rfl) ?_
          exact ret_I Z hr hlk hP hS hF dJ1_indexOfChar_4cfef_24
  refine lv_iload_n hx hb dJ1_indexOfChar_4cfef_0 rfl (lv_at hl 1 rfl) ?_
  refine lv_i2b (v := v1.toInt8.toInt32) hx hb dJ1_indexOfChar_4cfef_1 rfl ?_
  refine lv_istore (lv' := [(4, .int v1.toInt8.toInt32), (0, .ref (g.2.2.2.2 v0)), (1, .int v1), (2, .int v2), (3, .int v3)]) hx hb dJ1_indexOfChar_4cfef_2 hl (Nat.le_of_ble_eq_true rfl) rfl (fun ls hl => ?_)
  refine lv_iload_n hx hb dJ1_indexOfChar_4cfef_4 rfl (lv_at hl 3 rfl) ?_
  refine lv_istore (lv' := [(5, .int v2), (4, .int v1.toInt8.toInt32), (0, .ref (g.2.2.2.2 v0)), (1, .int v1), (2, .int v2), (3, .int v3)]) hx hb dJ1_indexOfChar_4cfef_5 hl (Nat.le_of_ble_eq_true rfl) rfl (fun ls hl => ?_)
  exact (hL7 FU) _ _ hF _ _ _ (lv_sub hl [2, 5, 1, 0] rfl) hP hS
theorem xJ1_indexOfChar_4cfef {p : Program} {l : Launch} {e : Env} {R : Room} {s : State} {m : MethodId} {args : Array Value} {below : List Frame} {meth : Method} {c : Code} {H : Heap} {locs : List Loc} {Q : State → Prop} {cc : ByteArray} {nL : Nat} {own : String} {g : GG} {pc index : Nat} {ls : Array Slot} {rest : List Value} {mc mm : Mem} (Z : ZZ p s m args c cc nL own g) (hP : va_P g.2.2.1 vwCl (wL g mc mm) H) (hS : va_S (AA g s.heap.size) s.heap H locs) {v0 : Nat} {v1 : Int32} {v2 : Int32} {v3 : Int32} (h0 : v0 < 7) {q : Int32} (hq : F1_indexOfChar_4cfef v0 v1 v2 v3 = some q) (hlk : Cond.methodLink own index yJ1_indexOfChar_4cfef ∈ wsL_law) (hsz : ls.size = nL) (hro : (rest.map fun v => v.category).sum ≤ 8) (hR : 0 + 1 ≤ R.frames ∧ 8 + (6 + 11) + 0 ≤ R.locals) (hdg : decode cc pc = .ok (.invokestatic index, 3)) (kk : ∀ (H : Heap) (locs : List Loc), va_P g.2.2.1 vwCl (wL g mc mm) H → va_S (AA g s.heap.size) s.heap H locs → W p l e R s m args below meth c H locs 0 0 Q (F0 m (pc + 3) ls (.int q :: rest))) : W p l e R s m args below meth c H locs 0 0 Q (F0 m pc ls (.int v3 :: .int v2 :: .int v1 :: .ref (g.2.2.2.2 v0) :: rest)) :=
  x_SI Z hP hS (kJ1_indexOfChar_4cfef l g v0 v1 v2 v3 h0 mc mm q hq) mf_J1_indexOfChar_4cfef wd_9_20 hlk rfl rfl hsz hro hR hdg kk
theorem dJ1_indexOf_4cfef_0 : decode cJ1_indexOf_4cfef 0 = .ok (.iload_n 1, 1) := by decide +kernel
theorem dJ1_indexOf_4cfef_1 : decode cJ1_indexOf_4cfef 1 = .ok (.invokestatic 88, 3) := by decide +kernel
theorem dJ1_indexOf_4cfef_4 : decode cJ1_indexOf_4cfef 4 = .ok (.ifCond .ne 5, 3) := by decide +kernel
theorem dJ1_indexOf_4cfef_7 : decode cJ1_indexOf_4cfef 7 = .ok (.iconst (-1), 1) := by decide +kernel
theorem dJ1_indexOf_4cfef_8 : decode cJ1_indexOf_4cfef 8 = .ok (.ireturn, 1) := by decide +kernel
theorem dJ1_indexOf_4cfef_9 : decode cJ1_indexOf_4cfef 9 = .ok (.iload_n 2, 1) := by decide +kernel
theorem dJ1_indexOf_4cfef_10 : decode cJ1_indexOf_4cfef 10 = .ok (.iconst 0, 1) := by decide +kernel
theorem dJ1_indexOf_4cfef_11 : decode cJ1_indexOf_4cfef 11 = .ok (.invokestatic 92, 3) := by decide +kernel
theorem dJ1_indexOf_4cfef_14 : decode cJ1_indexOf_4cfef 14 = .ok (.istore_n 2, 1) := by decide +kernel
theorem dJ1_indexOf_4cfef_15 : decode cJ1_indexOf_4cfef 15 = .ok (.iload_n 3, 1) := by decide +kernel
theorem dJ1_indexOf_4cfef_16 : decode cJ1_indexOf_4cfef 16 = .ok (.aload_n 0, 1) := by decide +kernel
theorem dJ1_indexOf_4cfef_17 : decode cJ1_indexOf_4cfef 17 = .ok (.arraylength, 1) := by decide +kernel
theorem dJ1_indexOf_4cfef_18 : decode cJ1_indexOf_4cfef 18 = .ok (.invokestatic 38, 3) := by decide +kernel
theorem dJ1_indexOf_4cfef_21 : decode cJ1_indexOf_4cfef 21 = .ok (.istore_n 3, 1) := by decide +kernel
theorem dJ1_indexOf_4cfef_22 : decode cJ1_indexOf_4cfef 22 = .ok (.iload_n 2, 1) := by decide +kernel
theorem dJ1_indexOf_4cfef_23 : decode cJ1_indexOf_4cfef 23 = .ok (.iload_n 3, 1) := by decide +kernel
theorem dJ1_indexOf_4cfef_24 : decode cJ1_indexOf_4cfef 24 = .ok (.if_icmp .lt 5, 3) := by decide +kernel
theorem dJ1_indexOf_4cfef_27 : decode cJ1_indexOf_4cfef 27 = .ok (.iconst (-1), 1) := by decide +kernel
theorem dJ1_indexOf_4cfef_28 : decode cJ1_indexOf_4cfef 28 = .ok (.ireturn, 1) := by decide +kernel
theorem dJ1_indexOf_4cfef_29 : decode cJ1_indexOf_4cfef 29 = .ok (.aload_n 0, 1) := by decide +kernel
theorem dJ1_indexOf_4cfef_30 : decode cJ1_indexOf_4cfef 30 = .ok (.iload_n 1, 1) := by decide +kernel
theorem dJ1_indexOf_4cfef_31 : decode cJ1_indexOf_4cfef 31 = .ok (.iload_n 2, 1) := by decide +kernel
theorem dJ1_indexOf_4cfef_32 : decode cJ1_indexOf_4cfef 32 = .ok (.iload_n 3, 1) := by decide +kernel
theorem dJ1_indexOf_4cfef_33 : decode cJ1_indexOf_4cfef 33 = .ok (.invokestatic 95, 3) := by decide +kernel
theorem dJ1_indexOf_4cfef_36 : decode cJ1_indexOf_4cfef 36 = .ok (.ireturn, 1) := by decide +kernel
noncomputable def F1_indexOf_4cfef (v0 : Nat) (v1 : Int32) (v2 : Int32) (v3 : Int32) : Option (Int32) :=
  ((F1_canEncode_9a6ad v1).bind (fun q3 => (if q3 = (0 : Int32) then some (-1 : Int32) else (if (if v2 < (0 : Int32) then (0 : Int32) else v2) < (if (Int32.ofNat (lenS.getD v0 0)) < v3 then (Int32.ofNat (lenS.getD v0 0)) else v3) then ((F1_indexOfChar_4cfef v0 v1 (if v2 < (0 : Int32) then (0 : Int32) else v2) (if (Int32.ofNat (lenS.getD v0 0)) < v3 then (Int32.ofNat (lenS.getD v0 0)) else v3)).bind (fun q4 => (some q4))) else some (-1 : Int32)))))
set_option maxHeartbeats 4000000 in
set_option maxRecDepth 100000 in
theorem kJ1_indexOf_4cfef (l : Launch) (g : GG) (v0 : Nat) (v1 : Int32) (v2 : Int32) (v3 : Int32) (h0 : v0 < 7) (mc mm : Mem) (q : Int32) (hF : F1_indexOf_4cfef v0 v1 v2 v3 = some q) : KI l yJ1_indexOf_4cfef cJ1_indexOf_4cfef 4 .int 1 40 g [.ref (g.2.2.2.2 v0), .int v1, .int v2, .int v3] mc mm q (mc, mm) := by
  intro sz
  refine x_start (Qc := fun z => QI g z q (mc, mm)) (by decide +kernel) (Nat.le_of_ble_eq_true rfl) ?_ sz
  intro p e s m args below meth c ls Z hr hlk hP hl
  have hx := Z.1.1
  have hb := Z.1.2.1
  have hown := Z.1.2.2.2.1
  have hts := Z.1.2.2.2.2
  have hS : va_S (AA g s.heap.size) s.heap s.heap [] := va_S.rf
  have hl : lv_has ls 4 [(0, .ref (g.2.2.2.2 v0)), (1, .int v1), (2, .int v2), (3, .int v3)] := hl
  unfold F1_indexOf_4cfef at hF
  refine lv_iload_n hx hb dJ1_indexOf_4cfef_0 rfl (lv_at hl 1 rfl) ?_
  obtain ⟨q3, hq3, hF⟩ := bd_ok hF
  refine xJ1_canEncode_9a6ad Z hP hS hq3 wd_9_16 hl.1 (Nat.le_of_ble_eq_true rfl) ⟨Nat.le_of_ble_eq_true rfl, Nat.le_of_ble_eq_true rfl⟩ dJ1_indexOf_4cfef_1 (fun H locs hP hS => ?_)
  refine lv_if_ne (tgt := 9) hx hb dJ1_indexOf_4cfef_4 rfl (fun hc => ?_) (fun hc => ?_)
  · have hF := (if_neg hc).symm.trans hF
    refine lv_iload_n hx hb dJ1_indexOf_4cfef_9 rfl (lv_at hl 2 rfl) ?_
    refine lv_iconst (v := (0 : Int32)) hx hb dJ1_indexOf_4cfef_10 ic_0 ?_
    refine va_mmax hx hb (Z.1.2.2.1.trans hl.1.symm) hown (hts _ wd_9_12) (hts _ wd_3_15) (hts _ wd_3_16) (hts _ wd_3_17) (Nat.le_of_ble_eq_true rfl) (Nat.le_of_ble_eq_true rfl) (Nat.zero_le _) (Nat.zero_le _) dJ1_indexOf_4cfef_11 ?_
    refine lv_istore_n (lv' := [(2, .int (if v2 < (0 : Int32) then (0 : Int32) else v2)), (0, .ref (g.2.2.2.2 v0)), (1, .int v1), (3, .int v3)]) hx hb dJ1_indexOf_4cfef_14 rfl hl (Nat.le_of_ble_eq_true rfl) rfl (fun ls hl => ?_)
    refine lv_iload_n hx hb dJ1_indexOf_4cfef_15 rfl (lv_at hl 3 rfl) ?_
    refine lv_aload_n hx hb dJ1_indexOf_4cfef_16 rfl (lv_at hl 1 rfl) ?_
    refine rs_len Z hS h0 dJ1_indexOf_4cfef_17 ?_
    refine va_mmin hx hb (Z.1.2.2.1.trans hl.1.symm) hown (hts _ wd_9_13) (hts _ wd_9_14) (hts _ wd_3_16) (hts _ wd_9_15) (Nat.le_of_ble_eq_true rfl) (Nat.le_of_ble_eq_true rfl) (Nat.zero_le _) (Nat.zero_le _) dJ1_indexOf_4cfef_18 ?_
    refine lv_istore_n (lv' := [(3, .int (if (Int32.ofNat (lenS.getD v0 0)) < v3 then (Int32.ofNat (lenS.getD v0 0)) else v3)), (2, .int (if v2 < (0 : Int32) then (0 : Int32) else v2)), (0, .ref (g.2.2.2.2 v0)), (1, .int v1)]) hx hb dJ1_indexOf_4cfef_21 rfl hl (Nat.le_of_ble_eq_true rfl) rfl (fun ls hl => ?_)
    refine lv_iload_n hx hb dJ1_indexOf_4cfef_22 rfl (lv_at hl 1 rfl) ?_
    refine lv_iload_n hx hb dJ1_indexOf_4cfef_23 rfl (lv_at hl 0 rfl) ?_
    refine lv_icmp_lt (tgt := 29) hx hb dJ1_indexOf_4cfef_24 rfl (fun hc => ?_) (fun hc => ?_)
    · have hF := (if_pos hc).symm.trans hF
      refine lv_aload_n hx hb dJ1_indexOf_4cfef_29 rfl (lv_at hl 2 rfl) ?_
      refine lv_iload_n hx hb dJ1_indexOf_4cfef_30 rfl (lv_at hl 3 rfl) ?_
      refine lv_iload_n hx hb dJ1_indexOf_4cfef_31 rfl (lv_at hl 1 rfl) ?_
      refine lv_iload_n hx hb dJ1_indexOf_4cfef_32 rfl (lv_at hl 0 rfl) ?_
      obtain ⟨q4, hq4, hF⟩ := bd_ok hF
      refine xJ1_indexOfChar_4cfef Z hP hS h0 hq4 wd_9_19 hl.1 (Nat.le_of_ble_eq_true rfl) ⟨Nat.le_of_ble_eq_true rfl, Nat.le_of_ble_eq_true rfl⟩ dJ1_indexOf_4cfef_33 (fun H locs hP hS => ?_)
      exact ret_I Z hr hlk hP hS hF dJ1_indexOf_4cfef_36
    · have hF := (if_neg hc).symm.trans hF
      refine lv_iconst (v := (-1 : Int32)) hx hb dJ1_indexOf_4cfef_27 ic_m1 ?_
      exact ret_I Z hr hlk hP hS hF dJ1_indexOf_4cfef_28
  · have hF := (if_pos hc).symm.trans hF
    refine lv_iconst (v := (-1 : Int32)) hx hb dJ1_indexOf_4cfef_7 ic_m1 ?_
    exact ret_I Z hr hlk hP hS hF dJ1_indexOf_4cfef_8
theorem xJ1_indexOf_4cfef {p : Program} {l : Launch} {e : Env} {R : Room} {s : State} {m : MethodId} {args : Array Value} {below : List Frame} {meth : Method} {c : Code} {H : Heap} {locs : List Loc} {Q : State → Prop} {cc : ByteArray} {nL : Nat} {own : String} {g : GG} {pc index : Nat} {ls : Array Slot} {rest : List Value} {mc mm : Mem} (Z : ZZ p s m args c cc nL own g) (hP : va_P g.2.2.1 vwCl (wL g mc mm) H) (hS : va_S (AA g s.heap.size) s.heap H locs) {v0 : Nat} {v1 : Int32} {v2 : Int32} {v3 : Int32} (h0 : v0 < 7) {q : Int32} (hq : F1_indexOf_4cfef v0 v1 v2 v3 = some q) (hlk : Cond.methodLink own index yJ1_indexOf_4cfef ∈ wsL_law) (hsz : ls.size = nL) (hro : (rest.map fun v => v.category).sum ≤ 8) (hR : 1 + 1 ≤ R.frames ∧ 8 + (4 + 11) + 40 ≤ R.locals) (hdg : decode cc pc = .ok (.invokestatic index, 3)) (kk : ∀ (H : Heap) (locs : List Loc), va_P g.2.2.1 vwCl (wL g mc mm) H → va_S (AA g s.heap.size) s.heap H locs → W p l e R s m args below meth c H locs 0 0 Q (F0 m (pc + 3) ls (.int q :: rest))) : W p l e R s m args below meth c H locs 0 0 Q (F0 m pc ls (.int v3 :: .int v2 :: .int v1 :: .ref (g.2.2.2.2 v0) :: rest)) :=
  x_SI Z hP hS (kJ1_indexOf_4cfef l g v0 v1 v2 v3 h0 mc mm q hq) mf_J1_indexOf_4cfef wd_9_9 hlk rfl rfl hsz hro hR hdg kk
theorem dJ0_indexOf_7cf53_0 : decode cJ0_indexOf_7cf53 0 = .ok (.aload_n 0, 1) := by decide +kernel
theorem dJ0_indexOf_7cf53_1 : decode cJ0_indexOf_7cf53 1 = .ok (.invokevirtual 492, 3) := by decide +kernel
theorem dJ0_indexOf_7cf53_4 : decode cJ0_indexOf_7cf53 4 = .ok (.ifCond .eq 19, 3) := by decide +kernel
theorem dJ0_indexOf_7cf53_7 : decode cJ0_indexOf_7cf53 7 = .ok (.aload_n 0, 1) := by decide +kernel
theorem dJ0_indexOf_7cf53_8 : decode cJ0_indexOf_7cf53 8 = .ok (.getfield 9, 3) := by decide +kernel
theorem dJ0_indexOf_7cf53_11 : decode cJ0_indexOf_7cf53 11 = .ok (.iload_n 1, 1) := by decide +kernel
theorem dJ0_indexOf_7cf53_12 : decode cJ0_indexOf_7cf53 12 = .ok (.iload_n 2, 1) := by decide +kernel
theorem dJ0_indexOf_7cf53_13 : decode cJ0_indexOf_7cf53 13 = .ok (.aload_n 0, 1) := by decide +kernel
theorem dJ0_indexOf_7cf53_14 : decode cJ0_indexOf_7cf53 14 = .ok (.invokevirtual 505, 3) := by decide +kernel
theorem dJ0_indexOf_7cf53_17 : decode cJ0_indexOf_7cf53 17 = .ok (.invokestatic 637, 3) := by decide +kernel
theorem dJ0_indexOf_7cf53_20 : decode cJ0_indexOf_7cf53 20 = .ok (.goto 16, 3) := by decide +kernel
theorem dJ0_indexOf_7cf53_23 : decode cJ0_indexOf_7cf53 23 = .ok (.aload_n 0, 1) := by decide +kernel
theorem dJ0_indexOf_7cf53_24 : decode cJ0_indexOf_7cf53 24 = .ok (.getfield 9, 3) := by decide +kernel
theorem dJ0_indexOf_7cf53_27 : decode cJ0_indexOf_7cf53 27 = .ok (.iload_n 1, 1) := by decide +kernel
theorem dJ0_indexOf_7cf53_28 : decode cJ0_indexOf_7cf53 28 = .ok (.iload_n 2, 1) := by decide +kernel
theorem dJ0_indexOf_7cf53_29 : decode cJ0_indexOf_7cf53 29 = .ok (.aload_n 0, 1) := by decide +kernel
theorem dJ0_indexOf_7cf53_30 : decode cJ0_indexOf_7cf53 30 = .ok (.invokevirtual 505, 3) := by decide +kernel
theorem dJ0_indexOf_7cf53_33 : decode cJ0_indexOf_7cf53 33 = .ok (.invokestatic 640, 3) := by decide +kernel
theorem dJ0_indexOf_7cf53_36 : decode cJ0_indexOf_7cf53 36 = .ok (.ireturn, 1) := by decide +kernel
noncomputable def F0_indexOf_7cf53 (v0 : Nat) (v1 : Int32) (v2 : Int32) : Option (Int32) :=
  ((F0_isLatin1_aae02 v0).bind (fun q4 => (if q4 = (0 : Int32) then none else ((F0_length_8abf5 v0).bind (fun q5 => ((F1_indexOf_4cfef v0 v1 v2 q5).bind (fun q6 => (some q6))))))))
set_option maxHeartbeats 4000000 in
set_option maxRecDepth 100000 in
theorem kJ0_indexOf_7cf53 (l : Launch) (g : GG) (v0 : Nat) (v1 : Int32) (v2 : Int32) (h0 : v0 < 7) (mc mm : Mem) (q : Int32) (hF : F0_indexOf_7cf53 v0 v1 v2 = some q) : KI l yJ0_indexOf_7cf53 cJ0_indexOf_7cf53 3 .int 2 63 g [.ref (g.2.2.2.1 v0), .int v1, .int v2] mc mm q (mc, mm) := by
  intro sz
  refine x_start (Qc := fun z => QI g z q (mc, mm)) (by decide +kernel) (Nat.le_of_ble_eq_true rfl) ?_ sz
  intro p e s m args below meth c ls Z hr hlk hP hl
  have hx := Z.1.1
  have hb := Z.1.2.1
  have hown := Z.1.2.2.2.1
  have hts := Z.1.2.2.2.2
  have hS : va_S (AA g s.heap.size) s.heap s.heap [] := va_S.rf
  have hl : lv_has ls 3 [(0, .ref (g.2.2.2.1 v0)), (1, .int v1), (2, .int v2)] := hl
  unfold F0_indexOf_7cf53 at hF
  refine lv_aload_n hx hb dJ0_indexOf_7cf53_0 rfl (lv_at hl 0 rfl) ?_
  obtain ⟨q4, hq4, hF⟩ := bd_ok hF
  refine xJ0_isLatin1_aae02 Z hP hS h0 hq4 wd_8_18 hl.1 (Nat.le_of_ble_eq_true rfl) ⟨Nat.le_of_ble_eq_true rfl, Nat.le_of_ble_eq_true rfl⟩ dJ0_indexOf_7cf53_1 (fun H locs hP hS => ?_)
  refine lv_if_eq (tgt := 23) hx hb dJ0_indexOf_7cf53_4 rfl (fun hc => ?_) (fun hc => ?_)
  · have hF := (if_pos hc).symm.trans hF
    exact nomatch hF
  · have hF := (if_neg hc).symm.trans hF
    refine lv_aload_n hx hb dJ0_indexOf_7cf53_7 rfl (lv_at hl 0 rfl) ?_
    refine rs_value Z hS h0 wd_8_17 dJ0_indexOf_7cf53_8 ?_
    refine lv_iload_n hx hb dJ0_indexOf_7cf53_11 rfl (lv_at hl 1 rfl) ?_
    refine lv_iload_n hx hb dJ0_indexOf_7cf53_12 rfl (lv_at hl 2 rfl) ?_
    refine lv_aload_n hx hb dJ0_indexOf_7cf53_13 rfl (lv_at hl 0 rfl) ?_
    obtain ⟨q5, hq5, hF⟩ := bd_ok hF
    refine xJ0_length_8abf5 Z hP hS h0 hq5 wd_9_0 hl.1 (Nat.le_of_ble_eq_true rfl) ⟨Nat.le_of_ble_eq_true rfl, Nat.le_of_ble_eq_true rfl⟩ dJ0_indexOf_7cf53_14 (fun H locs hP hS => ?_)
    obtain ⟨q6, hq6, hF⟩ := bd_ok hF
    refine xJ1_indexOf_4cfef Z hP hS h0 hq6 wd_9_8 hl.1 (Nat.le_of_ble_eq_true rfl) ⟨Nat.le_of_ble_eq_true rfl, Nat.le_of_ble_eq_true rfl⟩ dJ0_indexOf_7cf53_17 (fun H locs hP hS => ?_)
    refine lv_goto (tgt := 36) hx hb dJ0_indexOf_7cf53_20 rfl ?_
    exact ret_I Z hr hlk hP hS hF dJ0_indexOf_7cf53_36
theorem xJ0_indexOf_7cf53 {p : Program} {l : Launch} {e : Env} {R : Room} {s : State} {m : MethodId} {args : Array Value} {below : List Frame} {meth : Method} {c : Code} {H : Heap} {locs : List Loc} {Q : State → Prop} {cc : ByteArray} {nL : Nat} {own : String} {g : GG} {pc index : Nat} {ls : Array Slot} {rest : List Value} {mc mm : Mem} (Z : ZZ p s m args c cc nL own g) (hP : va_P g.2.2.1 vwCl (wL g mc mm) H) (hS : va_S (AA g s.heap.size) s.heap H locs) {v0 : Nat} {v1 : Int32} {v2 : Int32} (h0 : v0 < 7) {q : Int32} (hq : F0_indexOf_7cf53 v0 v1 v2 = some q) (hlk : Cond.methodLink own index yJ0_indexOf_7cf53 ∈ wsL_law) (hsz : ls.size = nL) (hro : (rest.map fun v => v.category).sum ≤ 8) (hR : 2 + 1 ≤ R.frames ∧ 8 + (3 + 11) + 63 ≤ R.locals) (hdg : decode cc pc = .ok (.invokevirtual index, 3)) (kk : ∀ (H : Heap) (locs : List Loc), va_P g.2.2.1 vwCl (wL g mc mm) H → va_S (AA g s.heap.size) s.heap H locs → W p l e R s m args below meth c H locs 0 0 Q (F0 m (pc + 3) ls (.int q :: rest))) : W p l e R s m args below meth c H locs 0 0 Q (F0 m pc ls (.int v2 :: .int v1 :: .ref (g.2.2.2.1 v0) :: rest)) :=
  x_QI Z hP hS (kJ0_indexOf_7cf53 l g v0 v1 v2 h0 mc mm q hq) h0 rfl mf_J0_indexOf_7cf53 mv_J0_indexOf_7cf53 hlk rfl rfl hsz hro hR hdg kk
theorem dJ0_indexOf_0f7a4_0 : decode cJ0_indexOf_0f7a4 0 = .ok (.aload_n 0, 1) := by decide +kernel
theorem dJ0_indexOf_0f7a4_1 : decode cJ0_indexOf_0f7a4 1 = .ok (.iload_n 1, 1) := by decide +kernel
theorem dJ0_indexOf_0f7a4_2 : decode cJ0_indexOf_0f7a4 2 = .ok (.iconst 0, 1) := by decide +kernel
theorem dJ0_indexOf_0f7a4_3 : decode cJ0_indexOf_0f7a4 3 = .ok (.invokevirtual 633, 3) := by decide +kernel
theorem dJ0_indexOf_0f7a4_6 : decode cJ0_indexOf_0f7a4 6 = .ok (.ireturn, 1) := by decide +kernel
noncomputable def F0_indexOf_0f7a4 (v0 : Nat) (v1 : Int32) : Option (Int32) :=
  ((F0_indexOf_7cf53 v0 v1 (0 : Int32)).bind (fun q2 => (some q2)))
set_option maxHeartbeats 4000000 in
set_option maxRecDepth 100000 in
theorem kJ0_indexOf_0f7a4 (l : Launch) (g : GG) (v0 : Nat) (v1 : Int32) (h0 : v0 < 7) (mc mm : Mem) (q : Int32) (hF : F0_indexOf_0f7a4 v0 v1 = some q) : KI l yJ0_indexOf_0f7a4 cJ0_indexOf_0f7a4 2 .int 3 85 g [.ref (g.2.2.2.1 v0), .int v1] mc mm q (mc, mm) := by
  intro sz
  refine x_start (Qc := fun z => QI g z q (mc, mm)) (by decide +kernel) (Nat.le_of_ble_eq_true rfl) ?_ sz
  intro p e s m args below meth c ls Z hr hlk hP hl
  have hx := Z.1.1
  have hb := Z.1.2.1
  have hown := Z.1.2.2.2.1
  have hts := Z.1.2.2.2.2
  have hS : va_S (AA g s.heap.size) s.heap s.heap [] := va_S.rf
  have hl : lv_has ls 2 [(0, .ref (g.2.2.2.1 v0)), (1, .int v1)] := hl
  unfold F0_indexOf_0f7a4 at hF
  refine lv_aload_n hx hb dJ0_indexOf_0f7a4_0 rfl (lv_at hl 0 rfl) ?_
  refine lv_iload_n hx hb dJ0_indexOf_0f7a4_1 rfl (lv_at hl 1 rfl) ?_
  refine lv_iconst (v := (0 : Int32)) hx hb dJ0_indexOf_0f7a4_2 ic_0 ?_
  obtain ⟨q2, hq2, hF⟩ := bd_ok hF
  refine xJ0_indexOf_7cf53 Z hP hS h0 hq2 wd_8_13 hl.1 (Nat.le_of_ble_eq_true rfl) ⟨Nat.le_of_ble_eq_true rfl, Nat.le_of_ble_eq_true rfl⟩ dJ0_indexOf_0f7a4_3 (fun H locs hP hS => ?_)
  exact ret_I Z hr hlk hP hS hF dJ0_indexOf_0f7a4_6
theorem xJ0_indexOf_0f7a4 {p : Program} {l : Launch} {e : Env} {R : Room} {s : State} {m : MethodId} {args : Array Value} {below : List Frame} {meth : Method} {c : Code} {H : Heap} {locs : List Loc} {Q : State → Prop} {cc : ByteArray} {nL : Nat} {own : String} {g : GG} {pc index : Nat} {ls : Array Slot} {rest : List Value} {mc mm : Mem} (Z : ZZ p s m args c cc nL own g) (hP : va_P g.2.2.1 vwCl (wL g mc mm) H) (hS : va_S (AA g s.heap.size) s.heap H locs) {v0 : Nat} {v1 : Int32} (h0 : v0 < 7) {q : Int32} (hq : F0_indexOf_0f7a4 v0 v1 = some q) (hlk : Cond.methodLink own index yJ0_indexOf_0f7a4 ∈ wsL_law) (hsz : ls.size = nL) (hro : (rest.map fun v => v.category).sum ≤ 8) (hR : 3 + 1 ≤ R.frames ∧ 8 + (2 + 11) + 85 ≤ R.locals) (hdg : decode cc pc = .ok (.invokevirtual index, 3)) (kk : ∀ (H : Heap) (locs : List Loc), va_P g.2.2.1 vwCl (wL g mc mm) H → va_S (AA g s.heap.size) s.heap H locs → W p l e R s m args below meth c H locs 0 0 Q (F0 m (pc + 3) ls (.int q :: rest))) : W p l e R s m args below meth c H locs 0 0 Q (F0 m pc ls (.int v1 :: .ref (g.2.2.2.1 v0) :: rest)) :=
  x_QI Z hP hS (kJ0_indexOf_0f7a4 l g v0 v1 h0 mc mm q hq) h0 rfl mf_J0_indexOf_0f7a4 mv_J0_indexOf_0f7a4 hlk rfl rfl hsz hro hR hdg kk
theorem dX7_sign_0 : decode cX7_sign 0 = .ok (.iload_n 1, 1) := by decide +kernel
theorem dX7_sign_1 : decode cX7_sign 1 = .ok (.aload_n 0, 1) := by decide +kernel
theorem dX7_sign_2 : decode cX7_sign 2 = .ok (.getfield 25, 3) := by decide +kernel
theorem dX7_sign_5 : decode cX7_sign 5 = .ok (.invokestatic 28, 3) := by decide +kernel
theorem dX7_sign_8 : decode cX7_sign 8 = .ok (.ifCond .eq 17, 3) := by decide +kernel
theorem dX7_sign_11 : decode cX7_sign 11 = .ok (.aload_n 2, 1) := by decide +kernel
theorem dX7_sign_12 : decode cX7_sign 12 = .ok (.aload_n 0, 1) := by decide +kernel
theorem dX7_sign_13 : decode cX7_sign 13 = .ok (.getfield 21, 3) := by decide +kernel
theorem dX7_sign_16 : decode cX7_sign 16 = .ok (.iload_n 1, 1) := by decide +kernel
theorem dX7_sign_17 : decode cX7_sign 17 = .ok (.iaload, 1) := by decide +kernel
theorem dX7_sign_18 : decode cX7_sign 18 = .ok (.i2c, 1) := by decide +kernel
theorem dX7_sign_19 : decode cX7_sign 19 = .ok (.invokevirtual 32, 3) := by decide +kernel
theorem dX7_sign_22 : decode cX7_sign 22 = .ok (.goto 4, 3) := by decide +kernel
theorem dX7_sign_25 : decode cX7_sign 25 = .ok (.iconst (-1), 1) := by decide +kernel
theorem dX7_sign_26 : decode cX7_sign 26 = .ok (.ireturn, 1) := by decide +kernel
noncomputable def F7_sign (v0 : Nat) (v1 : Int32) (v2 : Nat) (mc : Mem) : Option (Int32) :=
  ((F9_in v1 (mc v0 1)).bind (fun q4 => (if q4 = (0 : Int32) then some (-1 : Int32) else (ck v1 (ln (v0 + 1)) ((F0_indexOf_0f7a4 v2 (((mc (v0 + 1) v1.toNatClampNeg).toUInt32 % 65536).toInt32)).bind (fun q6 => (some q6)))))))
set_option maxHeartbeats 4000000 in
set_option maxRecDepth 100000 in
theorem kX7_sign (l : Launch) (g : GG) (v0 : Nat) (v1 : Int32) (v2 : Nat) (h0 : isO 7 v0) (h2 : v2 < 7) (mc mm : Mem) (q : Int32) (hF : F7_sign v0 v1 v2 mc = some q) : KI l yX7_sign cX7_sign 3 .int 4 106 g [.ref (g.1 v0), .int v1, .ref (g.2.2.2.1 v2)] mc mm q (mc, mm) := by
  intro sz
  refine x_start (Qc := fun z => QI g z q (mc, mm)) (by decide +kernel) (Nat.le_of_ble_eq_true rfl) ?_ sz
  intro p e s m args below meth c ls Z hr hlk hP hl
  have hx := Z.1.1
  have hb := Z.1.2.1
  have hown := Z.1.2.2.2.1
  have hts := Z.1.2.2.2.2
  have hS : va_S (AA g s.heap.size) s.heap s.heap [] := va_S.rf
  have hl : lv_has ls 3 [(0, .ref (g.1 v0)), (1, .int v1), (2, .ref (g.2.2.2.1 v2))] := hl
  unfold F7_sign at hF
  refine lv_iload_n hx hb dX7_sign_0 rfl (lv_at hl 1 rfl) ?_
  refine lv_aload_n hx hb dX7_sign_1 rfl (lv_at hl 0 rfl) ?_
  refine gf7_1 Z hP h0 wd_7_14 dX7_sign_2 ?_
  obtain ⟨q4, hq4, hF⟩ := bd_ok hF
  refine xX9_inN Z hP hS hq4 nm_12 hl.1 (Nat.le_of_ble_eq_true rfl) ⟨Nat.le_of_ble_eq_true rfl, Nat.le_of_ble_eq_true rfl⟩ dX7_sign_5 (fun H locs hP hS => ?_)
  refine lv_if_eq (tgt := 25) hx hb dX7_sign_8 rfl (fun hc => ?_) (fun hc => ?_)
  · have hF := (if_pos hc).symm.trans hF
    refine lv_iconst (v := (-1 : Int32)) hx hb dX7_sign_25 ic_m1 ?_
    exact ret_I Z hr hlk hP hS hF dX7_sign_26
  · have hF := (if_neg hc).symm.trans hF
    refine lv_aload_n hx hb dX7_sign_11 rfl (lv_at hl 2 rfl) ?_
    refine lv_aload_n hx hb dX7_sign_12 rfl (lv_at hl 0 rfl) ?_
    refine gf7_0 Z hP h0 wd_3_18 dX7_sign_13 ?_
    refine lv_iload_n hx hb dX7_sign_16 rfl (lv_at hl 1 rfl) ?_
    obtain ⟨hi5, hF⟩ := ck_ok hF
    refine ra_ld Z hP (ia_7_0 h0) hi5 dX7_sign_17 ?_
    refine lv_i2c (v := ((mc (v0 + 1) v1.toNatClampNeg).toUInt32 % 65536).toInt32) hx hb dX7_sign_18 rfl ?_
    obtain ⟨q6, hq6, hF⟩ := bd_ok hF
    refine xJ0_indexOf_0f7a4 Z hP hS h2 hq6 wd_8_8 hl.1 (Nat.le_of_ble_eq_true rfl) ⟨Nat.le_of_ble_eq_true rfl, Nat.le_of_ble_eq_true rfl⟩ dX7_sign_19 (fun H locs hP hS => ?_)
    refine lv_goto (tgt := 26) hx hb dX7_sign_22 rfl ?_
    exact ret_I Z hr hlk hP hS hF dX7_sign_26
theorem xX7_sign {p : Program} {l : Launch} {e : Env} {R : Room} {s : State} {m : MethodId} {args : Array Value} {below : List Frame} {meth : Method} {c : Code} {H : Heap} {locs : List Loc} {Q : State → Prop} {cc : ByteArray} {nL : Nat} {own : String} {g : GG} {pc index : Nat} {ls : Array Slot} {rest : List Value} {mc mm : Mem} (Z : ZZ p s m args c cc nL own g) (hP : va_P g.2.2.1 vwCl (wL g mc mm) H) (hS : va_S (AA g s.heap.size) s.heap H locs) {v0 : Nat} {v1 : Int32} {v2 : Nat} (h0 : isO 7 v0) (h2 : v2 < 7) {q : Int32} (hq : F7_sign v0 v1 v2 mc = some q) (hlk : Cond.methodLink own index yX7_sign ∈ wsL_law) (hsz : ls.size = nL) (hro : (rest.map fun v => v.category).sum ≤ 8) (hR : 4 + 1 ≤ R.frames ∧ 8 + (3 + 11) + 106 ≤ R.locals) (hdg : decode cc pc = .ok (.invokevirtual index, 3)) (kk : ∀ (H : Heap) (locs : List Loc), va_P g.2.2.1 vwCl (wL g mc mm) H → va_S (AA g s.heap.size) s.heap H locs → W p l e R s m args below meth c H locs 0 0 Q (F0 m (pc + 3) ls (.int q :: rest))) : W p l e R s m args below meth c H locs 0 0 Q (F0 m pc ls (.ref (g.2.2.2.1 v2) :: .int v1 :: .ref (g.1 v0) :: rest)) :=
  x_VI Z hP hS (kX7_sign l g v0 v1 v2 h0 h2 mc mm q hq) (isO_w h0) (ci := 7) (by decide) rfl rfl mf_X7_sign mv_X7_sign hlk rfl rfl hsz hro hR hdg kk
theorem dX5_takeHead_0 : decode cX5_takeHead 0 = .ok (.aload_n 0, 1) := by decide +kernel
theorem dX5_takeHead_1 : decode cX5_takeHead 1 = .ok (.getfield 9, 3) := by decide +kernel
theorem dX5_takeHead_4 : decode cX5_takeHead 4 = .ok (.iload_n 3, 1) := by decide +kernel
theorem dX5_takeHead_5 : decode cX5_takeHead 5 = .ok (.aload_n 1, 1) := by decide +kernel
theorem dX5_takeHead_6 : decode cX5_takeHead 6 = .ok (.iload_n 2, 1) := by decide +kernel
theorem dX5_takeHead_7 : decode cX5_takeHead 7 = .ok (.ldc 53, 2) := by decide +kernel
theorem dX5_takeHead_9 : decode cX5_takeHead 9 = .ok (.invokevirtual 49, 3) := by decide +kernel
theorem dX5_takeHead_12 : decode cX5_takeHead 12 = .ok (.iastore, 1) := by decide +kernel
theorem dX5_takeHead_13 : decode cX5_takeHead 13 = .ok (.aload_n 0, 1) := by decide +kernel
theorem dX5_takeHead_14 : decode cX5_takeHead 14 = .ok (.getfield 9, 3) := by decide +kernel
theorem dX5_takeHead_17 : decode cX5_takeHead 17 = .ok (.iload_n 3, 1) := by decide +kernel
theorem dX5_takeHead_18 : decode cX5_takeHead 18 = .ok (.iaload, 1) := by decide +kernel
theorem dX5_takeHead_19 : decode cX5_takeHead 19 = .ok (.iconst (-1), 1) := by decide +kernel
theorem dX5_takeHead_20 : decode cX5_takeHead 20 = .ok (.if_icmp .ne 5, 3) := by decide +kernel
theorem dX5_takeHead_23 : decode cX5_takeHead 23 = .ok (.iload_n 2, 1) := by decide +kernel
theorem dX5_takeHead_24 : decode cX5_takeHead 24 = .ok (.ireturn, 1) := by decide +kernel
theorem dX5_takeHead_25 : decode cX5_takeHead 25 = .ok (.aload_n 0, 1) := by decide +kernel
theorem dX5_takeHead_26 : decode cX5_takeHead 26 = .ok (.getfield 15, 3) := by decide +kernel
theorem dX5_takeHead_29 : decode cX5_takeHead 29 = .ok (.iload_n 3, 1) := by decide +kernel
theorem dX5_takeHead_30 : decode cX5_takeHead 30 = .ok (.aload_n 1, 1) := by decide +kernel
theorem dX5_takeHead_31 : decode cX5_takeHead 31 = .ok (.iload_n 2, 1) := by decide +kernel
theorem dX5_takeHead_32 : decode cX5_takeHead 32 = .ok (.iconst 1, 1) := by decide +kernel
theorem dX5_takeHead_33 : decode cX5_takeHead 33 = .ok (.iadd, 1) := by decide +kernel
theorem dX5_takeHead_34 : decode cX5_takeHead 34 = .ok (.ldc 55, 2) := by decide +kernel
theorem dX5_takeHead_36 : decode cX5_takeHead 36 = .ok (.invokevirtual 49, 3) := by decide +kernel
theorem dX5_takeHead_39 : decode cX5_takeHead 39 = .ok (.iastore, 1) := by decide +kernel
theorem dX5_takeHead_40 : decode cX5_takeHead 40 = .ok (.aload_n 0, 1) := by decide +kernel
theorem dX5_takeHead_41 : decode cX5_takeHead 41 = .ok (.getfield 15, 3) := by decide +kernel
theorem dX5_takeHead_44 : decode cX5_takeHead 44 = .ok (.iload_n 3, 1) := by decide +kernel
theorem dX5_takeHead_45 : decode cX5_takeHead 45 = .ok (.iaload, 1) := by decide +kernel
theorem dX5_takeHead_46 : decode cX5_takeHead 46 = .ok (.iconst (-1), 1) := by decide +kernel
theorem dX5_takeHead_47 : decode cX5_takeHead 47 = .ok (.if_icmp .ne 7, 3) := by decide +kernel
theorem dX5_takeHead_50 : decode cX5_takeHead 50 = .ok (.iload_n 2, 1) := by decide +kernel
theorem dX5_takeHead_51 : decode cX5_takeHead 51 = .ok (.iconst 1, 1) := by decide +kernel
theorem dX5_takeHead_52 : decode cX5_takeHead 52 = .ok (.iadd, 1) := by decide +kernel
theorem dX5_takeHead_53 : decode cX5_takeHead 53 = .ok (.ireturn, 1) := by decide +kernel
theorem dX5_takeHead_54 : decode cX5_takeHead 54 = .ok (.aload_n 0, 1) := by decide +kernel
theorem dX5_takeHead_55 : decode cX5_takeHead 55 = .ok (.getfield 18, 3) := by decide +kernel
theorem dX5_takeHead_58 : decode cX5_takeHead 58 = .ok (.iload_n 3, 1) := by decide +kernel
theorem dX5_takeHead_59 : decode cX5_takeHead 59 = .ok (.aload_n 1, 1) := by decide +kernel
theorem dX5_takeHead_60 : decode cX5_takeHead 60 = .ok (.iload_n 2, 1) := by decide +kernel
theorem dX5_takeHead_61 : decode cX5_takeHead 61 = .ok (.iconst 2, 1) := by decide +kernel
theorem dX5_takeHead_62 : decode cX5_takeHead 62 = .ok (.iadd, 1) := by decide +kernel
theorem dX5_takeHead_63 : decode cX5_takeHead 63 = .ok (.ldc 57, 2) := by decide +kernel
theorem dX5_takeHead_65 : decode cX5_takeHead 65 = .ok (.invokevirtual 49, 3) := by decide +kernel
theorem dX5_takeHead_68 : decode cX5_takeHead 68 = .ok (.iastore, 1) := by decide +kernel
theorem dX5_takeHead_69 : decode cX5_takeHead 69 = .ok (.aload_n 0, 1) := by decide +kernel
theorem dX5_takeHead_70 : decode cX5_takeHead 70 = .ok (.getfield 18, 3) := by decide +kernel
theorem dX5_takeHead_73 : decode cX5_takeHead 73 = .ok (.iload_n 3, 1) := by decide +kernel
theorem dX5_takeHead_74 : decode cX5_takeHead 74 = .ok (.iaload, 1) := by decide +kernel
theorem dX5_takeHead_75 : decode cX5_takeHead 75 = .ok (.iconst (-1), 1) := by decide +kernel
theorem dX5_takeHead_76 : decode cX5_takeHead 76 = .ok (.if_icmp .ne 9, 3) := by decide +kernel
theorem dX5_takeHead_79 : decode cX5_takeHead 79 = .ok (.iload_n 2, 1) := by decide +kernel
theorem dX5_takeHead_80 : decode cX5_takeHead 80 = .ok (.iconst 2, 1) := by decide +kernel
theorem dX5_takeHead_81 : decode cX5_takeHead 81 = .ok (.iadd, 1) := by decide +kernel
theorem dX5_takeHead_82 : decode cX5_takeHead 82 = .ok (.goto 4, 3) := by decide +kernel
theorem dX5_takeHead_85 : decode cX5_takeHead 85 = .ok (.iconst (-1), 1) := by decide +kernel
theorem dX5_takeHead_86 : decode cX5_takeHead 86 = .ok (.ireturn, 1) := by decide +kernel
noncomputable def F5_takeHead (v0 : Nat) (v1 : Nat) (v2 : Int32) (v3 : Int32) (mc : Mem) : Option (Int32 × Mem) :=
  ((F7_sign v1 v2 1 mc).bind (fun q13 => (ck v3 8 (lt (mset mc (v0 + 1) v3.toNatClampNeg q13) (fun M15 => (ck v3 8 (if (M15 (v0 + 1) v3.toNatClampNeg) = (-1 : Int32) then some (v2, M15) else ((F7_sign v1 (v2 + (1 : Int32)) 2 M15).bind (fun q17 => (ck v3 8 (lt (mset M15 (v0 + 2) v3.toNatClampNeg q17) (fun M19 => (ck v3 8 (if (M19 (v0 + 2) v3.toNatClampNeg) = (-1 : Int32) then some ((v2 + (1 : Int32)), M19) else ((F7_sign v1 (v2 + (2 : Int32)) 3 M19).bind (fun q21 => (ck v3 8 (lt (mset M19 (v0 + 3) v3.toNatClampNeg q21) (fun M23 => (ck v3 8 (if (M23 (v0 + 3) v3.toNatClampNeg) = (-1 : Int32) then some ((v2 + (2 : Int32)), M23) else some ((-1 : Int32), M23))))))))))))))))))))))
set_option maxHeartbeats 4000000 in
set_option maxRecDepth 100000 in
theorem kX5_takeHead (l : Launch) (g : GG) (v0 : Nat) (v1 : Nat) (v2 : Int32) (v3 : Int32) (h0 : isO 5 v0) (h1 : isO 7 v1) (mc mm : Mem) (q : Int32 × Mem) (hF : F5_takeHead v0 v1 v2 v3 mc = some q) : KI l yX5_takeHead cX5_takeHead 4 .int 5 128 g [.ref (g.1 v0), .ref (g.1 v1), .int v2, .int v3] mc mm q.1 (q.2, mm) := by
  intro sz
  refine x_start (Qc := fun z => QI g z q.1 (q.2, mm)) (by decide +kernel) (Nat.le_of_ble_eq_true rfl) ?_ sz
  intro p e s m args below meth c ls Z hr hlk hP hl
  have hx := Z.1.1
  have hb := Z.1.2.1
  have hown := Z.1.2.2.2.1
  have hts := Z.1.2.2.2.2
  have hS : va_S (AA g s.heap.size) s.heap s.heap [] := va_S.rf
  have hl : lv_has ls 4 [(0, .ref (g.1 v0)), (1, .ref (g.1 v1)), (2, .int v2), (3, .int v3)] := hl
  unfold F5_takeHead at hF
  refine lv_aload_n hx hb dX5_takeHead_0 rfl (lv_at hl 0 rfl) ?_
  refine gf5_0 Z hP h0 wd_4_6 dX5_takeHead_1 ?_
  refine lv_iload_n hx hb dX5_takeHead_4 rfl (lv_at hl 3 rfl) ?_
  refine lv_aload_n hx hb dX5_takeHead_5 rfl (lv_at hl 1 rfl) ?_
  refine lv_iload_n hx hb dX5_takeHead_6 rfl (lv_at hl 2 rfl) ?_
  refine rs_ldc (i := 1) Z ks_1 dX5_takeHead_7 ?_
  obtain ⟨q13, hq13, hF⟩ := bd_ok hF
  refine xX7_sign Z hP hS h1 (by decide) hq13 wd_12_15 hl.1 (Nat.le_of_ble_eq_true rfl) ⟨Nat.le_of_ble_eq_true rfl, Nat.le_of_ble_eq_true rfl⟩ dX5_takeHead_9 (fun H locs hP hS => ?_)
  obtain ⟨hi14, hF⟩ := ck_ok hF
  refine ra_st Z hP hS (ia_5_0 h0) hi14 dX5_takeHead_12 (fun H locs hP hS => ?_)
  refine lv_aload_n hx hb dX5_takeHead_13 rfl (lv_at hl 0 rfl) ?_
  refine gf5_0 Z hP h0 wd_4_6 dX5_takeHead_14 ?_
  refine lv_iload_n hx hb dX5_takeHead_17 rfl (lv_at hl 3 rfl) ?_
  obtain ⟨M15, eM15, hF⟩ := lt_ok hF
  have hP : va_P g.2.2.1 vwCl (wL g M15 mm) H := by rw [eM15]; exact hP
  obtain ⟨hi16, hF⟩ := ck_ok hF
  refine ra_ld Z hP (ia_5_0 h0) hi16 dX5_takeHead_18 ?_
  refine lv_iconst (v := (-1 : Int32)) hx hb dX5_takeHead_19 ic_m1 ?_
  refine lv_icmp_ne (tgt := 25) hx hb dX5_takeHead_20 rfl (fun hc => ?_) (fun hc => ?_)
  · have hF := (if_neg hc).symm.trans hF
    refine lv_aload_n hx hb dX5_takeHead_25 rfl (lv_at hl 0 rfl) ?_
    refine gf5_1 Z hP h0 wd_4_7 dX5_takeHead_26 ?_
    refine lv_iload_n hx hb dX5_takeHead_29 rfl (lv_at hl 3 rfl) ?_
    refine lv_aload_n hx hb dX5_takeHead_30 rfl (lv_at hl 1 rfl) ?_
    refine lv_iload_n hx hb dX5_takeHead_31 rfl (lv_at hl 2 rfl) ?_
    refine lv_iconst (v := (1 : Int32)) hx hb dX5_takeHead_32 ic_1 ?_
    refine lv_iadd hx hb dX5_takeHead_33 ?_
    refine rs_ldc (i := 2) Z ks_2 dX5_takeHead_34 ?_
    obtain ⟨q17, hq17, hF⟩ := bd_ok hF
    refine xX7_sign Z hP hS h1 (by decide) hq17 wd_12_15 hl.1 (Nat.le_of_ble_eq_true rfl) ⟨Nat.le_of_ble_eq_true rfl, Nat.le_of_ble_eq_true rfl⟩ dX5_takeHead_36 (fun H locs hP hS => ?_)
    obtain ⟨hi18, hF⟩ := ck_ok hF
    refine ra_st Z hP hS (ia_5_1 h0) hi18 dX5_takeHead_39 (fun H locs hP hS => ?_)
    refine lv_aload_n hx hb dX5_takeHead_40 rfl (lv_at hl 0 rfl) ?_
    refine gf5_1 Z hP h0 wd_4_7 dX5_takeHead_41 ?_
    refine lv_iload_n hx hb dX5_takeHead_44 rfl (lv_at hl 3 rfl) ?_
    obtain ⟨M19, eM19, hF⟩ := lt_ok hF
    have hP : va_P g.2.2.1 vwCl (wL g M19 mm) H := by rw [eM19]; exact hP
    obtain ⟨hi20, hF⟩ := ck_ok hF
    refine ra_ld Z hP (ia_5_1 h0) hi20 dX5_takeHead_45 ?_
    refine lv_iconst (v := (-1 : Int32)) hx hb dX5_takeHead_46 ic_m1 ?_
    refine lv_icmp_ne (tgt := 54) hx hb dX5_takeHead_47 rfl (fun hc => ?_) (fun hc => ?_)
    · have hF := (if_neg hc).symm.trans hF
      refine lv_aload_n hx hb dX5_takeHead_54 rfl (lv_at hl 0 rfl) ?_
      refine gf5_2 Z hP h0 wd_4_8 dX5_takeHead_55 ?_
      refine lv_iload_n hx hb dX5_takeHead_58 rfl (lv_at hl 3 rfl) ?_
      refine lv_aload_n hx hb dX5_takeHead_59 rfl (lv_at hl 1 rfl) ?_
      refine lv_iload_n hx hb dX5_takeHead_60 rfl (lv_at hl 2 rfl) ?_
      refine lv_iconst (v := (2 : Int32)) hx hb dX5_takeHead_61 ic_2 ?_
      refine lv_iadd hx hb dX5_takeHead_62 ?_
      refine rs_ldc (i := 3) Z ks_3 dX5_takeHead_63 ?_
      obtain ⟨q21, hq21, hF⟩ := bd_ok hF
      refine xX7_sign Z hP hS h1 (by decide) hq21 wd_12_15 hl.1 (Nat.le_of_ble_eq_true rfl) ⟨Nat.le_of_ble_eq_true rfl, Nat.le_of_ble_eq_true rfl⟩ dX5_takeHead_65 (fun H locs hP hS => ?_)
      obtain ⟨hi22, hF⟩ := ck_ok hF
      refine ra_st Z hP hS (ia_5_2 h0) hi22 dX5_takeHead_68 (fun H locs hP hS => ?_)
      refine lv_aload_n hx hb dX5_takeHead_69 rfl (lv_at hl 0 rfl) ?_
      refine gf5_2 Z hP h0 wd_4_8 dX5_takeHead_70 ?_
      refine lv_iload_n hx hb dX5_takeHead_73 rfl (lv_at hl 3 rfl) ?_
      obtain ⟨M23, eM23, hF⟩ := lt_ok hF
      have hP : va_P g.2.2.1 vwCl (wL g M23 mm) H := by rw [eM23]; exact hP
      obtain ⟨hi24, hF⟩ := ck_ok hF
      refine ra_ld Z hP (ia_5_2 h0) hi24 dX5_takeHead_74 ?_
      refine lv_iconst (v := (-1 : Int32)) hx hb dX5_takeHead_75 ic_m1 ?_
      refine lv_icmp_ne (tgt := 85) hx hb dX5_takeHead_76 rfl (fun hc => ?_) (fun hc => ?_)
      · have hF := (if_neg hc).symm.trans hF
        refine lv_iconst (v := (-1 : Int32)) hx hb dX5_takeHead_85 ic_m1 ?_
        exact ret_IWC Z hr hlk hP hS hF dX5_takeHead_86
      · have hF := (if_pos hc).symm.trans hF
        refine lv_iload_n hx hb dX5_takeHead_79 rfl (lv_at hl 2 rfl) ?_
        refine lv_iconst (v := (2 : Int32)) hx hb dX5_takeHead_80 ic_2 ?_
        refine lv_iadd hx hb dX5_takeHead_81 ?_
        refine lv_goto (tgt := 86) hx hb dX5_takeHead_82 rfl ?_
        exact ret_IWC Z hr hlk hP hS hF dX5_takeHead_86
    · have hF := (if_pos hc).symm.trans hF
      refine lv_iload_n hx hb dX5_takeHead_50 rfl (lv_at hl 2 rfl) ?_
      refine lv_iconst (v := (1 : Int32)) hx hb dX5_takeHead_51 ic_1 ?_
      refine lv_iadd hx hb dX5_takeHead_52 ?_
      exact ret_IWC Z hr hlk hP hS hF dX5_takeHead_53
  · have hF := (if_pos hc).symm.trans hF
    refine lv_iload_n hx hb dX5_takeHead_23 rfl (lv_at hl 2 rfl) ?_
    exact ret_IWC Z hr hlk hP hS hF dX5_takeHead_24
theorem xX5_takeHead {p : Program} {l : Launch} {e : Env} {R : Room} {s : State} {m : MethodId} {args : Array Value} {below : List Frame} {meth : Method} {c : Code} {H : Heap} {locs : List Loc} {Q : State → Prop} {cc : ByteArray} {nL : Nat} {own : String} {g : GG} {pc index : Nat} {ls : Array Slot} {rest : List Value} {mc mm : Mem} (Z : ZZ p s m args c cc nL own g) (hP : va_P g.2.2.1 vwCl (wL g mc mm) H) (hS : va_S (AA g s.heap.size) s.heap H locs) {v0 : Nat} {v1 : Nat} {v2 : Int32} {v3 : Int32} (h0 : isO 5 v0) (h1 : isO 7 v1) {q : Int32 × Mem} (hq : F5_takeHead v0 v1 v2 v3 mc = some q) (hlk : Cond.methodLink own index yX5_takeHead ∈ wsL_law) (hsz : ls.size = nL) (hro : (rest.map fun v => v.category).sum ≤ 8) (hR : 5 + 1 ≤ R.frames ∧ 8 + (4 + 11) + 128 ≤ R.locals) (hdg : decode cc pc = .ok (.invokevirtual index, 3)) (kk : ∀ (H : Heap) (locs : List Loc), va_P g.2.2.1 vwCl (wL g q.2 mm) H → va_S (AA g s.heap.size) s.heap H locs → W p l e R s m args below meth c H locs 0 0 Q (F0 m (pc + 3) ls (.int q.1 :: rest))) : W p l e R s m args below meth c H locs 0 0 Q (F0 m pc ls (.int v3 :: .int v2 :: .ref (g.1 v1) :: .ref (g.1 v0) :: rest)) :=
  x_VI Z hP hS (kX5_takeHead l g v0 v1 v2 v3 h0 h1 mc mm q hq) (isO_w h0) (ci := 5) (by decide) rfl rfl mf_X5_takeHead mv_X5_takeHead hlk rfl rfl hsz hro hR hdg kk
theorem dX5_takeWord_0 : decode cX5_takeWord 0 = .ok (.iconst 0, 1) := by decide +kernel
theorem dX5_takeWord_1 : decode cX5_takeWord 1 = .ok (.istore 4, 2) := by decide +kernel
theorem dX5_takeWord_3 : decode cX5_takeWord 3 = .ok (.iload 4, 2) := by decide +kernel
theorem dX5_takeWord_5 : decode cX5_takeWord 5 = .ok (.iconst 4, 1) := by decide +kernel
theorem dX5_takeWord_6 : decode cX5_takeWord 6 = .ok (.if_icmp .ge 43, 3) := by decide +kernel
theorem dX5_takeWord_9 : decode cX5_takeWord 9 = .ok (.aload_n 1, 1) := by decide +kernel
theorem dX5_takeWord_10 : decode cX5_takeWord 10 = .ok (.iload_n 2, 1) := by decide +kernel
theorem dX5_takeWord_11 : decode cX5_takeWord 11 = .ok (.iload 4, 2) := by decide +kernel
theorem dX5_takeWord_13 : decode cX5_takeWord 13 = .ok (.iadd, 1) := by decide +kernel
theorem dX5_takeWord_14 : decode cX5_takeWord 14 = .ok (.ldc 59, 2) := by decide +kernel
theorem dX5_takeWord_16 : decode cX5_takeWord 16 = .ok (.invokevirtual 49, 3) := by decide +kernel
theorem dX5_takeWord_19 : decode cX5_takeWord 19 = .ok (.istore 5, 2) := by decide +kernel
theorem dX5_takeWord_21 : decode cX5_takeWord 21 = .ok (.iload 5, 2) := by decide +kernel
theorem dX5_takeWord_23 : decode cX5_takeWord 23 = .ok (.iconst (-1), 1) := by decide +kernel
theorem dX5_takeWord_24 : decode cX5_takeWord 24 = .ok (.if_icmp .ne 6, 3) := by decide +kernel
theorem dX5_takeWord_27 : decode cX5_takeWord 27 = .ok (.iload 4, 2) := by decide +kernel
theorem dX5_takeWord_29 : decode cX5_takeWord 29 = .ok (.ireturn, 1) := by decide +kernel
theorem dX5_takeWord_30 : decode cX5_takeWord 30 = .ok (.aload_n 0, 1) := by decide +kernel
theorem dX5_takeWord_31 : decode cX5_takeWord 31 = .ok (.getfield 24, 3) := by decide +kernel
theorem dX5_takeWord_34 : decode cX5_takeWord 34 = .ok (.iload_n 3, 1) := by decide +kernel
theorem dX5_takeWord_35 : decode cX5_takeWord 35 = .ok (.iconst 4, 1) := by decide +kernel
theorem dX5_takeWord_36 : decode cX5_takeWord 36 = .ok (.imul, 1) := by decide +kernel
theorem dX5_takeWord_37 : decode cX5_takeWord 37 = .ok (.iload 4, 2) := by decide +kernel
theorem dX5_takeWord_39 : decode cX5_takeWord 39 = .ok (.iadd, 1) := by decide +kernel
theorem dX5_takeWord_40 : decode cX5_takeWord 40 = .ok (.iload 5, 2) := by decide +kernel
theorem dX5_takeWord_42 : decode cX5_takeWord 42 = .ok (.iastore, 1) := by decide +kernel
theorem dX5_takeWord_43 : decode cX5_takeWord 43 = .ok (.iinc 4 1, 3) := by decide +kernel
theorem dX5_takeWord_46 : decode cX5_takeWord 46 = .ok (.goto (-43), 3) := by decide +kernel
theorem dX5_takeWord_49 : decode cX5_takeWord 49 = .ok (.iconst 4, 1) := by decide +kernel
theorem dX5_takeWord_50 : decode cX5_takeWord 50 = .ok (.ireturn, 1) := by decide +kernel
noncomputable def F5_takeWord_p3 (kh : Int32 → Mem → Option (Int32 × Mem)) (v0 : Nat) (v1 : Nat) (v2 : Int32) (v3 : Int32) (a4 : Int32) (M : Mem) : Option (Int32 × Mem) :=
  (if (4 : Int32) ≤ a4 then some ((4 : Int32), M) else ((F7_sign v1 (v2 + a4) 4 M).bind (fun q3 => (if q3 = (-1 : Int32) then some (a4, M) else (ck ((v3 * (4 : Int32)) + a4) 32 (kh (a4 + (1 : Int32)) (mset M (v0 + 5) ((v3 * (4 : Int32)) + a4).toNatClampNeg q3)))))))
noncomputable def F5_takeWord_h3 (v0 : Nat) (v1 : Nat) (v2 : Int32) (v3 : Int32) : Nat → Int32 → Mem → Option (Int32 × Mem)
  | 0, _, _ => none
  | n + 1, a4, M => F5_takeWord_p3 (F5_takeWord_h3 v0 v1 v2 v3 n) v0 v1 v2 v3 a4 M
noncomputable def F5_takeWord (v0 : Nat) (v1 : Nat) (v2 : Int32) (v3 : Int32) (mc : Mem) : Option (Int32 × Mem) :=
  (F5_takeWord_h3 v0 v1 v2 v3 FU) (0 : Int32) mc
set_option maxHeartbeats 4000000 in
set_option maxRecDepth 100000 in
theorem kX5_takeWord (l : Launch) (g : GG) (v0 : Nat) (v1 : Nat) (v2 : Int32) (v3 : Int32) (h0 : isO 5 v0) (h1 : isO 7 v1) (mc mm : Mem) (q : Int32 × Mem) (hF : F5_takeWord v0 v1 v2 v3 mc = some q) : KI l yX5_takeWord cX5_takeWord 6 .int 5 128 g [.ref (g.1 v0), .ref (g.1 v1), .int v2, .int v3] mc mm q.1 (q.2, mm) := by
  intro sz
  refine x_start (Qc := fun z => QI g z q.1 (q.2, mm)) (by decide +kernel) (Nat.le_of_ble_eq_true rfl) ?_ sz
  intro p e s m args below meth c ls Z hr hlk hP hl
  have hx := Z.1.1
  have hb := Z.1.2.1
  have hown := Z.1.2.2.2.1
  have hts := Z.1.2.2.2.2
  have hS : va_S (AA g s.heap.size) s.heap s.heap [] := va_S.rf
  have hl : lv_has ls 6 [(0, .ref (g.1 v0)), (1, .ref (g.1 v1)), (2, .int v2), (3, .int v3)] := hl
  unfold F5_takeWord at hF
  have hL3 : ∀ n : Nat, ∀ (a4 : Int32) (M : Mem), F5_takeWord_h3 v0 v1 v2 v3 n a4 M = some q → ∀ (H : Heap) (locs : List Loc) (ls : Array Slot), lv_has ls 6 [(0, .ref (g.1 v0)), (1, .ref (g.1 v1)), (2, .int v2), (3, .int v3), (4, .int a4)] → va_P g.2.2.1 vwCl (wL g M mm) H → va_S (AA g s.heap.size) s.heap H locs → W p l e { frames := 5, cells := 0, slots := 0, locals := 128 } s m args below meth c H locs 0 0 (MQ below (QI g s.heap.size q.1 (q.2, mm)) args s 0 0 (AA g s.heap.size)) (F0 m 3 ls []) := by
    intro n
    induction n with
    | zero => intro a4 M hF H locs ls hl hP hS; exact absurd hF (fun z => nomatch (show (none : Option _) = some q from z))
    | succ n ih =>
      generalize hkh : F5_takeWord_h3 v0 v1 v2 v3 n = kh at ih
      intro a4 M hF H locs ls hl hP hS
      have hF : F5_takeWord_p3 (F5_takeWord_h3 v0 v1 v2 v3 n) v0 v1 v2 v3 a4 M = some q := hF
      rw [hkh] at hF
      unfold F5_takeWord_p3 at hF
      refine lv_iload hx hb dX5_takeWord_3 (lv_at hl 4 rfl) ?_
      refine lv_iconst (v := (4 : Int32)) hx hb dX5_takeWord_5 ic_4 ?_
      refine lv_icmp_ge (tgt := 49) hx hb dX5_takeWord_6 rfl (fun hc => ?_) (fun hc => ?_)
      · have hF := (if_pos hc).symm.trans hF
        refine lv_iconst (v := (4 : Int32)) hx hb dX5_takeWord_49 ic_4 ?_
        exact ret_IWC Z hr hlk hP hS hF dX5_takeWord_50
      · have hF := (if_neg hc).symm.trans hF
        refine lv_aload_n hx hb dX5_takeWord_9 rfl (lv_at hl 1 rfl) ?_
        refine lv_iload_n hx hb dX5_takeWord_10 rfl (lv_at hl 2 rfl) ?_
        refine lv_iload hx hb dX5_takeWord_11 (lv_at hl 4 rfl) ?_
        refine lv_iadd hx hb dX5_takeWord_13 ?_
        refine rs_ldc (i := 4) Z ks_4 dX5_takeWord_14 ?_
        obtain ⟨q3, hq3, hF⟩ := bd_ok hF
        refine xX7_sign Z hP hS h1 (by decide) hq3 wd_12_15 hl.1 (Nat.le_of_ble_eq_true rfl) ⟨Nat.le_of_ble_eq_true rfl, Nat.le_of_ble_eq_true rfl⟩ dX5_takeWord_16 (fun H locs hP hS => ?_)
        refine lv_istore (lv' := [(5, .int q3), (0, .ref (g.1 v0)), (1, .ref (g.1 v1)), (2, .int v2), (3, .int v3), (4, .int a4)]) hx hb dX5_takeWord_19 hl (Nat.le_of_ble_eq_true rfl) rfl (fun ls hl => ?_)
        refine lv_iload hx hb dX5_takeWord_21 (lv_at hl 0 rfl) ?_
        refine lv_iconst (v := (-1 : Int32)) hx hb dX5_takeWord_23 ic_m1 ?_
        refine lv_icmp_ne (tgt := 30) hx hb dX5_takeWord_24 rfl (fun hc => ?_) (fun hc => ?_)
        · have hF := (if_neg hc).symm.trans hF
          refine lv_aload_n hx hb dX5_takeWord_30 rfl (lv_at hl 1 rfl) ?_
          refine gf5_4 Z hP h0 wd_4_10 dX5_takeWord_31 ?_
          refine lv_iload_n hx hb dX5_takeWord_34 rfl (lv_at hl 4 rfl) ?_
          refine lv_iconst (v := (4 : Int32)) hx hb dX5_takeWord_35 ic_4 ?_
          refine lv_imul hx hb dX5_takeWord_36 ?_
          refine lv_iload hx hb dX5_takeWord_37 (lv_at hl 5 rfl) ?_
          refine lv_iadd hx hb dX5_takeWord_39 ?_
          refine lv_iload hx hb dX5_takeWord_40 (lv_at hl 0 rfl) ?_
          obtain ⟨hi4, hF⟩ := ck_ok hF
          refine ra_st Z hP hS (ia_5_4 h0) hi4 dX5_takeWord_42 (fun H locs hP hS => ?_)
          refine lv_iinc (lv' := [(4, .int (a4 + (1 : Int32))), (5, .int q3), (0, .ref (g.1 v0)), (1, .ref (g.1 v1)), (2, .int v2), (3, .int v3)]) (v := (a4 + (1 : Int32))) hx hb dX5_takeWord_43 hl (k := 5) rfl (io_1 _) (Nat.le_of_ble_eq_true rfl) rfl (fun ls hl => ?_)
          refine lv_goto (tgt := 3) hx hb dX5_takeWord_46 rfl ?_
          exact ih _ _ hF _ _ _ (lv_sub hl [2, 3, 4, 5, 0] rfl) hP hS
        · have hF := (if_pos hc).symm.trans hF
          refine lv_iload hx hb dX5_takeWord_27 (lv_at hl 5 rfl) ?_
          exact ret_IWC Z hr hlk hP hS hF dX5_takeWord_29
  refine lv_iconst (v := (0 : Int32)) hx hb dX5_takeWord_0 ic_0 ?_
  refine lv_istore (lv' := [(4, .int (0 : Int32)), (0, .ref (g.1 v0)), (1, .ref (g.1 v1)), (2, .int v2), (3, .int v3)]) hx hb dX5_takeWord_1 hl (Nat.le_of_ble_eq_true rfl) rfl (fun ls hl => ?_)
  exact (hL3 FU) _ _ hF _ _ _ (lv_sub hl [1, 2, 3, 4, 0] rfl) hP hS
theorem xX5_takeWord {p : Program} {l : Launch} {e : Env} {R : Room} {s : State} {m : MethodId} {args : Array Value} {below : List Frame} {meth : Method} {c : Code} {H : Heap} {locs : List Loc} {Q : State → Prop} {cc : ByteArray} {nL : Nat} {own : String} {g : GG} {pc index : Nat} {ls : Array Slot} {rest : List Value} {mc mm : Mem} (Z : ZZ p s m args c cc nL own g) (hP : va_P g.2.2.1 vwCl (wL g mc mm) H) (hS : va_S (AA g s.heap.size) s.heap H locs) {v0 : Nat} {v1 : Nat} {v2 : Int32} {v3 : Int32} (h0 : isO 5 v0) (h1 : isO 7 v1) {q : Int32 × Mem} (hq : F5_takeWord v0 v1 v2 v3 mc = some q) (hlk : Cond.methodLink own index yX5_takeWord ∈ wsL_law) (hsz : ls.size = nL) (hro : (rest.map fun v => v.category).sum ≤ 8) (hR : 5 + 1 ≤ R.frames ∧ 8 + (6 + 11) + 128 ≤ R.locals) (hdg : decode cc pc = .ok (.invokevirtual index, 3)) (kk : ∀ (H : Heap) (locs : List Loc), va_P g.2.2.1 vwCl (wL g q.2 mm) H → va_S (AA g s.heap.size) s.heap H locs → W p l e R s m args below meth c H locs 0 0 Q (F0 m (pc + 3) ls (.int q.1 :: rest))) : W p l e R s m args below meth c H locs 0 0 Q (F0 m pc ls (.int v3 :: .int v2 :: .ref (g.1 v1) :: .ref (g.1 v0) :: rest)) :=
  x_VI Z hP hS (kX5_takeWord l g v0 v1 v2 v3 h0 h1 mc mm q hq) (isO_w h0) (ci := 5) (by decide) rfl rfl mf_X5_takeWord mv_X5_takeWord hlk rfl rfl hsz hro hR hdg kk
theorem dX5_takeAll_0 : decode cX5_takeAll 0 = .ok (.iconst 0, 1) := by decide +kernel
theorem dX5_takeAll_1 : decode cX5_takeAll 1 = .ok (.istore_n 2, 1) := by decide +kernel
theorem dX5_takeAll_2 : decode cX5_takeAll 2 = .ok (.iconst 0, 1) := by decide +kernel
theorem dX5_takeAll_3 : decode cX5_takeAll 3 = .ok (.istore_n 3, 1) := by decide +kernel
theorem dX5_takeAll_4 : decode cX5_takeAll 4 = .ok (.iload_n 3, 1) := by decide +kernel
theorem dX5_takeAll_5 : decode cX5_takeAll 5 = .ok (.bipush 8, 2) := by decide +kernel
theorem dX5_takeAll_7 : decode cX5_takeAll 7 = .ok (.if_icmp .ge 96, 3) := by decide +kernel
theorem dX5_takeAll_10 : decode cX5_takeAll 10 = .ok (.aload_n 0, 1) := by decide +kernel
theorem dX5_takeAll_11 : decode cX5_takeAll 11 = .ok (.aload_n 1, 1) := by decide +kernel
theorem dX5_takeAll_12 : decode cX5_takeAll 12 = .ok (.iload_n 2, 1) := by decide +kernel
theorem dX5_takeAll_13 : decode cX5_takeAll 13 = .ok (.iload_n 3, 1) := by decide +kernel
theorem dX5_takeAll_14 : decode cX5_takeAll 14 = .ok (.invokevirtual 40, 3) := by decide +kernel
theorem dX5_takeAll_17 : decode cX5_takeAll 17 = .ok (.istore 4, 2) := by decide +kernel
theorem dX5_takeAll_19 : decode cX5_takeAll 19 = .ok (.iload 4, 2) := by decide +kernel
theorem dX5_takeAll_21 : decode cX5_takeAll 21 = .ok (.iconst (-1), 1) := by decide +kernel
theorem dX5_takeAll_22 : decode cX5_takeAll 22 = .ok (.if_icmp .eq 6, 3) := by decide +kernel
theorem dX5_takeAll_25 : decode cX5_takeAll 25 = .ok (.iload 4, 2) := by decide +kernel
theorem dX5_takeAll_27 : decode cX5_takeAll 27 = .ok (.ireturn, 1) := by decide +kernel
theorem dX5_takeAll_28 : decode cX5_takeAll 28 = .ok (.iinc 2 3, 3) := by decide +kernel
theorem dX5_takeAll_31 : decode cX5_takeAll 31 = .ok (.aload_n 0, 1) := by decide +kernel
theorem dX5_takeAll_32 : decode cX5_takeAll 32 = .ok (.getfield 21, 3) := by decide +kernel
theorem dX5_takeAll_35 : decode cX5_takeAll 35 = .ok (.iload_n 3, 1) := by decide +kernel
theorem dX5_takeAll_36 : decode cX5_takeAll 36 = .ok (.aload_n 0, 1) := by decide +kernel
theorem dX5_takeAll_37 : decode cX5_takeAll 37 = .ok (.aload_n 1, 1) := by decide +kernel
theorem dX5_takeAll_38 : decode cX5_takeAll 38 = .ok (.iload_n 2, 1) := by decide +kernel
theorem dX5_takeAll_39 : decode cX5_takeAll 39 = .ok (.iload_n 3, 1) := by decide +kernel
theorem dX5_takeAll_40 : decode cX5_takeAll 40 = .ok (.invokevirtual 44, 3) := by decide +kernel
theorem dX5_takeAll_43 : decode cX5_takeAll 43 = .ok (.iastore, 1) := by decide +kernel
theorem dX5_takeAll_44 : decode cX5_takeAll 44 = .ok (.aload_n 0, 1) := by decide +kernel
theorem dX5_takeAll_45 : decode cX5_takeAll 45 = .ok (.getfield 21, 3) := by decide +kernel
theorem dX5_takeAll_48 : decode cX5_takeAll 48 = .ok (.iload_n 3, 1) := by decide +kernel
theorem dX5_takeAll_49 : decode cX5_takeAll 49 = .ok (.iaload, 1) := by decide +kernel
theorem dX5_takeAll_50 : decode cX5_takeAll 50 = .ok (.ifCond .ne 5, 3) := by decide +kernel
theorem dX5_takeAll_53 : decode cX5_takeAll 53 = .ok (.iload_n 2, 1) := by decide +kernel
theorem dX5_takeAll_54 : decode cX5_takeAll 54 = .ok (.ireturn, 1) := by decide +kernel
theorem dX5_takeAll_55 : decode cX5_takeAll 55 = .ok (.aload_n 0, 1) := by decide +kernel
theorem dX5_takeAll_56 : decode cX5_takeAll 56 = .ok (.iload_n 3, 1) := by decide +kernel
theorem dX5_takeAll_57 : decode cX5_takeAll 57 = .ok (.iconst 1, 1) := by decide +kernel
theorem dX5_takeAll_58 : decode cX5_takeAll 58 = .ok (.iadd, 1) := by decide +kernel
theorem dX5_takeAll_59 : decode cX5_takeAll 59 = .ok (.putfield 27, 3) := by decide +kernel
theorem dX5_takeAll_62 : decode cX5_takeAll 62 = .ok (.iload_n 2, 1) := by decide +kernel
theorem dX5_takeAll_63 : decode cX5_takeAll 63 = .ok (.aload_n 0, 1) := by decide +kernel
theorem dX5_takeAll_64 : decode cX5_takeAll 64 = .ok (.getfield 21, 3) := by decide +kernel
theorem dX5_takeAll_67 : decode cX5_takeAll 67 = .ok (.iload_n 3, 1) := by decide +kernel
theorem dX5_takeAll_68 : decode cX5_takeAll 68 = .ok (.iaload, 1) := by decide +kernel
theorem dX5_takeAll_69 : decode cX5_takeAll 69 = .ok (.iadd, 1) := by decide +kernel
theorem dX5_takeAll_70 : decode cX5_takeAll 70 = .ok (.istore_n 2, 1) := by decide +kernel
theorem dX5_takeAll_71 : decode cX5_takeAll 71 = .ok (.iload_n 2, 1) := by decide +kernel
theorem dX5_takeAll_72 : decode cX5_takeAll 72 = .ok (.aload_n 1, 1) := by decide +kernel
theorem dX5_takeAll_73 : decode cX5_takeAll 73 = .ok (.getfield 31, 3) := by decide +kernel
theorem dX5_takeAll_76 : decode cX5_takeAll 76 = .ok (.if_icmp .ne 5, 3) := by decide +kernel
theorem dX5_takeAll_79 : decode cX5_takeAll 79 = .ok (.iconst (-1), 1) := by decide +kernel
theorem dX5_takeAll_80 : decode cX5_takeAll 80 = .ok (.ireturn, 1) := by decide +kernel
theorem dX5_takeAll_81 : decode cX5_takeAll 81 = .ok (.aload_n 1, 1) := by decide +kernel
theorem dX5_takeAll_82 : decode cX5_takeAll 82 = .ok (.iload_n 2, 1) := by decide +kernel
theorem dX5_takeAll_83 : decode cX5_takeAll 83 = .ok (.ldc 47, 2) := by decide +kernel
theorem dX5_takeAll_85 : decode cX5_takeAll 85 = .ok (.invokevirtual 49, 3) := by decide +kernel
theorem dX5_takeAll_88 : decode cX5_takeAll 88 = .ok (.iconst (-1), 1) := by decide +kernel
theorem dX5_takeAll_89 : decode cX5_takeAll 89 = .ok (.if_icmp .ne 5, 3) := by decide +kernel
theorem dX5_takeAll_92 : decode cX5_takeAll 92 = .ok (.iload_n 2, 1) := by decide +kernel
theorem dX5_takeAll_93 : decode cX5_takeAll 93 = .ok (.ireturn, 1) := by decide +kernel
theorem dX5_takeAll_94 : decode cX5_takeAll 94 = .ok (.iinc 2 1, 3) := by decide +kernel
theorem dX5_takeAll_97 : decode cX5_takeAll 97 = .ok (.iinc 3 1, 3) := by decide +kernel
theorem dX5_takeAll_100 : decode cX5_takeAll 100 = .ok (.goto (-96), 3) := by decide +kernel
theorem dX5_takeAll_103 : decode cX5_takeAll 103 = .ok (.iload_n 2, 1) := by decide +kernel
theorem dX5_takeAll_104 : decode cX5_takeAll 104 = .ok (.ireturn, 1) := by decide +kernel
noncomputable def F5_takeAll_p4 (kh : Int32 → Int32 → Mem → Option (Int32 × Mem)) (v0 : Nat) (v1 : Nat) (a2 : Int32) (a3 : Int32) (M : Mem) : Option (Int32 × Mem) :=
  (if (8 : Int32) ≤ a3 then some (a2, M) else ((F5_takeHead v0 v1 a2 a3 M).bind (fun q9 => (if q9.1 = (-1 : Int32) then ((F5_takeWord v0 v1 (a2 + (3 : Int32)) a3 q9.2).bind (fun q10 => (ck a3 8 (lt (mset q10.2 (v0 + 4) a3.toNatClampNeg q10.1) (fun M12 => (ck a3 8 (if (M12 (v0 + 4) a3.toNatClampNeg) = (0 : Int32) then some ((a2 + (3 : Int32)), M12) else (lt (mset M12 v0 5 (a3 + (1 : Int32))) (fun M14 => (ck a3 8 (if ((a2 + (3 : Int32)) + (M14 (v0 + 4) a3.toNatClampNeg)) = (M14 v1 1) then some ((-1 : Int32), M14) else ((F7_sign v1 ((a2 + (3 : Int32)) + (M14 (v0 + 4) a3.toNatClampNeg)) 0 M14).bind (fun q16 => (if q16 = (-1 : Int32) then some (((a2 + (3 : Int32)) + (M14 (v0 + 4) a3.toNatClampNeg)), M14) else kh (((a2 + (3 : Int32)) + (M14 (v0 + 4) a3.toNatClampNeg)) + (1 : Int32)) (a3 + (1 : Int32)) M14)))))))))))))) else some (q9.1, q9.2)))))
noncomputable def F5_takeAll_h4 (v0 : Nat) (v1 : Nat) : Nat → Int32 → Int32 → Mem → Option (Int32 × Mem)
  | 0, _, _, _ => none
  | n + 1, a2, a3, M => F5_takeAll_p4 (F5_takeAll_h4 v0 v1 n) v0 v1 a2 a3 M
noncomputable def F5_takeAll (v0 : Nat) (v1 : Nat) (mc : Mem) : Option (Int32 × Mem) :=
  (F5_takeAll_h4 v0 v1 FU) (0 : Int32) (0 : Int32) mc
set_option maxHeartbeats 4000000 in
set_option maxRecDepth 100000 in
theorem kX5_takeAll (l : Launch) (g : GG) (v0 : Nat) (v1 : Nat) (h0 : isO 5 v0) (h1 : isO 7 v1) (mc mm : Mem) (q : Int32 × Mem) (hF : F5_takeAll v0 v1 mc = some q) : KI l yX5_takeAll cX5_takeAll 5 .int 6 153 g [.ref (g.1 v0), .ref (g.1 v1)] mc mm q.1 (q.2, mm) := by
  intro sz
  refine x_start (Qc := fun z => QI g z q.1 (q.2, mm)) (by decide +kernel) (Nat.le_of_ble_eq_true rfl) ?_ sz
  intro p e s m args below meth c ls Z hr hlk hP hl
  have hx := Z.1.1
  have hb := Z.1.2.1
  have hown := Z.1.2.2.2.1
  have hts := Z.1.2.2.2.2
  have hS : va_S (AA g s.heap.size) s.heap s.heap [] := va_S.rf
  have hl : lv_has ls 5 [(0, .ref (g.1 v0)), (1, .ref (g.1 v1))] := hl
  unfold F5_takeAll at hF
  have hL4 : ∀ n : Nat, ∀ (a2 : Int32) (a3 : Int32) (M : Mem), F5_takeAll_h4 v0 v1 n a2 a3 M = some q → ∀ (H : Heap) (locs : List Loc) (ls : Array Slot), lv_has ls 5 [(0, .ref (g.1 v0)), (1, .ref (g.1 v1)), (2, .int a2), (3, .int a3)] → va_P g.2.2.1 vwCl (wL g M mm) H → va_S (AA g s.heap.size) s.heap H locs → W p l e { frames := 6, cells := 0, slots := 0, locals := 153 } s m args below meth c H locs 0 0 (MQ below (QI g s.heap.size q.1 (q.2, mm)) args s 0 0 (AA g s.heap.size)) (F0 m 4 ls []) := by
    intro n
    induction n with
    | zero => intro a2 a3 M hF H locs ls hl hP hS; exact absurd hF (fun z => nomatch (show (none : Option _) = some q from z))
    | succ n ih =>
      generalize hkh : F5_takeAll_h4 v0 v1 n = kh at ih
      intro a2 a3 M hF H locs ls hl hP hS
      have hF : F5_takeAll_p4 (F5_takeAll_h4 v0 v1 n) v0 v1 a2 a3 M = some q := hF
      rw [hkh] at hF
      unfold F5_takeAll_p4 at hF
      refine lv_iload_n hx hb dX5_takeAll_4 rfl (lv_at hl 3 rfl) ?_
      refine lv_bipush (v := (8 : Int32)) hx hb dX5_takeAll_5 bp_8 ?_
      refine lv_icmp_ge (tgt := 103) hx hb dX5_takeAll_7 rfl (fun hc => ?_) (fun hc => ?_)
      · have hF := (if_pos hc).symm.trans hF
        refine lv_iload_n hx hb dX5_takeAll_103 rfl (lv_at hl 2 rfl) ?_
        exact ret_IWC Z hr hlk hP hS hF dX5_takeAll_104
      · have hF := (if_neg hc).symm.trans hF
        refine lv_aload_n hx hb dX5_takeAll_10 rfl (lv_at hl 0 rfl) ?_
        refine lv_aload_n hx hb dX5_takeAll_11 rfl (lv_at hl 1 rfl) ?_
        refine lv_iload_n hx hb dX5_takeAll_12 rfl (lv_at hl 2 rfl) ?_
        refine lv_iload_n hx hb dX5_takeAll_13 rfl (lv_at hl 3 rfl) ?_
        obtain ⟨q9, hq9, hF⟩ := bd_ok hF
        refine xX5_takeHead Z hP hS h0 h1 hq9 wd_12_11 hl.1 (Nat.le_of_ble_eq_true rfl) ⟨Nat.le_of_ble_eq_true rfl, Nat.le_of_ble_eq_true rfl⟩ dX5_takeAll_14 (fun H locs hP hS => ?_)
        refine lv_istore (lv' := [(4, .int q9.1), (0, .ref (g.1 v0)), (1, .ref (g.1 v1)), (2, .int a2), (3, .int a3)]) hx hb dX5_takeAll_17 hl (Nat.le_of_ble_eq_true rfl) rfl (fun ls hl => ?_)
        refine lv_iload hx hb dX5_takeAll_19 (lv_at hl 0 rfl) ?_
        refine lv_iconst (v := (-1 : Int32)) hx hb dX5_takeAll_21 ic_m1 ?_
        refine lv_icmp_eq (tgt := 28) hx hb dX5_takeAll_22 rfl (fun hc => ?_) (fun hc => ?_)
        · have hF := (if_pos hc).symm.trans hF
          refine lv_iinc (lv' := [(2, .int (a2 + (3 : Int32))), (4, .int q9.1), (0, .ref (g.1 v0)), (1, .ref (g.1 v1)), (3, .int a3)]) (v := (a2 + (3 : Int32))) hx hb dX5_takeAll_28 hl (k := 3) rfl (io_3 _) (Nat.le_of_ble_eq_true rfl) rfl (fun ls hl => ?_)
          refine lv_aload_n hx hb dX5_takeAll_31 rfl (lv_at hl 2 rfl) ?_
          refine gf5_3 Z hP h0 wd_4_9 dX5_takeAll_32 ?_
          refine lv_iload_n hx hb dX5_takeAll_35 rfl (lv_at hl 4 rfl) ?_
          refine lv_aload_n hx hb dX5_takeAll_36 rfl (lv_at hl 2 rfl) ?_
          refine lv_aload_n hx hb dX5_takeAll_37 rfl (lv_at hl 3 rfl) ?_
          refine lv_iload_n hx hb dX5_takeAll_38 rfl (lv_at hl 0 rfl) ?_
          refine lv_iload_n hx hb dX5_takeAll_39 rfl (lv_at hl 4 rfl) ?_
          obtain ⟨q10, hq10, hF⟩ := bd_ok hF
          refine xX5_takeWord Z hP hS h0 h1 hq10 wd_12_16 hl.1 (Nat.le_of_ble_eq_true rfl) ⟨Nat.le_of_ble_eq_true rfl, Nat.le_of_ble_eq_true rfl⟩ dX5_takeAll_40 (fun H locs hP hS => ?_)
          obtain ⟨hi11, hF⟩ := ck_ok hF
          refine ra_st Z hP hS (ia_5_3 h0) hi11 dX5_takeAll_43 (fun H locs hP hS => ?_)
          refine lv_aload_n hx hb dX5_takeAll_44 rfl (lv_at hl 2 rfl) ?_
          refine gf5_3 Z hP h0 wd_4_9 dX5_takeAll_45 ?_
          refine lv_iload_n hx hb dX5_takeAll_48 rfl (lv_at hl 4 rfl) ?_
          obtain ⟨M12, eM12, hF⟩ := lt_ok hF
          have hP : va_P g.2.2.1 vwCl (wL g M12 mm) H := by rw [eM12]; exact hP
          obtain ⟨hi13, hF⟩ := ck_ok hF
          refine ra_ld Z hP (ia_5_3 h0) hi13 dX5_takeAll_49 ?_
          refine lv_if_ne (tgt := 55) hx hb dX5_takeAll_50 rfl (fun hc => ?_) (fun hc => ?_)
          · have hF := (if_neg hc).symm.trans hF
            refine lv_aload_n hx hb dX5_takeAll_55 rfl (lv_at hl 2 rfl) ?_
            refine lv_iload_n hx hb dX5_takeAll_56 rfl (lv_at hl 4 rfl) ?_
            refine lv_iconst (v := (1 : Int32)) hx hb dX5_takeAll_57 ic_1 ?_
            refine lv_iadd hx hb dX5_takeAll_58 ?_
            refine pf5_5 Z hP hS h0 wd_12_6 dX5_takeAll_59 (fun H locs hP hS => ?_)
            refine lv_iload_n hx hb dX5_takeAll_62 rfl (lv_at hl 0 rfl) ?_
            refine lv_aload_n hx hb dX5_takeAll_63 rfl (lv_at hl 2 rfl) ?_
            refine gf5_3 Z hP h0 wd_4_9 dX5_takeAll_64 ?_
            refine lv_iload_n hx hb dX5_takeAll_67 rfl (lv_at hl 4 rfl) ?_
            obtain ⟨M14, eM14, hF⟩ := lt_ok hF
            have hP : va_P g.2.2.1 vwCl (wL g M14 mm) H := by rw [eM14]; exact hP
            obtain ⟨hi15, hF⟩ := ck_ok hF
            refine ra_ld Z hP (ia_5_3 h0) hi15 dX5_takeAll_68 ?_
            refine lv_iadd hx hb dX5_takeAll_69 ?_
            refine lv_istore_n (lv' := [(2, .int ((a2 + (3 : Int32)) + (M14 (v0 + 4) a3.toNatClampNeg))), (4, .int q9.1), (0, .ref (g.1 v0)), (1, .ref (g.1 v1)), (3, .int a3)]) hx hb dX5_takeAll_70 rfl hl (Nat.le_of_ble_eq_true rfl) rfl (fun ls hl => ?_)
            refine lv_iload_n hx hb dX5_takeAll_71 rfl (lv_at hl 0 rfl) ?_
            refine lv_aload_n hx hb dX5_takeAll_72 rfl (lv_at hl 3 rfl) ?_
            refine gf7_1N Z hP h1 nf_45 dX5_takeAll_73 ?_
            refine lv_icmp_ne (tgt := 81) hx hb dX5_takeAll_76 rfl (fun hc => ?_) (fun hc => ?_)
            · have hF := (if_neg hc).symm.trans hF
              refine lv_aload_n hx hb dX5_takeAll_81 rfl (lv_at hl 3 rfl) ?_
              refine lv_iload_n hx hb dX5_takeAll_82 rfl (lv_at hl 0 rfl) ?_
              refine rs_ldc (i := 0) Z ks_0 dX5_takeAll_83 ?_
              obtain ⟨q16, hq16, hF⟩ := bd_ok hF
              refine xX7_sign Z hP hS h1 (by decide) hq16 wd_12_15 hl.1 (Nat.le_of_ble_eq_true rfl) ⟨Nat.le_of_ble_eq_true rfl, Nat.le_of_ble_eq_true rfl⟩ dX5_takeAll_85 (fun H locs hP hS => ?_)
              refine lv_iconst (v := (-1 : Int32)) hx hb dX5_takeAll_88 ic_m1 ?_
              refine lv_icmp_ne (tgt := 94) hx hb dX5_takeAll_89 rfl (fun hc => ?_) (fun hc => ?_)
              · have hF := (if_neg hc).symm.trans hF
                refine lv_iinc (lv' := [(2, .int (((a2 + (3 : Int32)) + (M14 (v0 + 4) a3.toNatClampNeg)) + (1 : Int32))), (4, .int q9.1), (0, .ref (g.1 v0)), (1, .ref (g.1 v1)), (3, .int a3)]) (v := (((a2 + (3 : Int32)) + (M14 (v0 + 4) a3.toNatClampNeg)) + (1 : Int32))) hx hb dX5_takeAll_94 hl (k := 0) rfl (io_1 _) (Nat.le_of_ble_eq_true rfl) rfl (fun ls hl => ?_)
                refine lv_iinc (lv' := [(3, .int (a3 + (1 : Int32))), (2, .int (((a2 + (3 : Int32)) + (M14 (v0 + 4) a3.toNatClampNeg)) + (1 : Int32))), (4, .int q9.1), (0, .ref (g.1 v0)), (1, .ref (g.1 v1))]) (v := (a3 + (1 : Int32))) hx hb dX5_takeAll_97 hl (k := 4) rfl (io_1 _) (Nat.le_of_ble_eq_true rfl) rfl (fun ls hl => ?_)
                refine lv_goto (tgt := 4) hx hb dX5_takeAll_100 rfl ?_
                exact ih _ _ _ hF _ _ _ (lv_sub hl [3, 4, 1, 0] rfl) hP hS
              · have hF := (if_pos hc).symm.trans hF
                refine lv_iload_n hx hb dX5_takeAll_92 rfl (lv_at hl 0 rfl) ?_
                exact ret_IWC Z hr hlk hP hS hF dX5_takeAll_93
            · have hF := (if_pos hc).symm.trans hF
              refine lv_iconst (v := (-1 : Int32)) hx hb dX5_takeAll_79 ic_m1 ?_
              exact ret_IWC Z hr hlk hP hS hF dX5_takeAll_80
          · have hF := (if_pos hc).symm.trans hF
            refine lv_iload_n hx hb dX5_takeAll_53 rfl (lv_at hl 0 rfl) ?_
            exact ret_IWC Z hr hlk hP hS hF dX5_takeAll_54
        · have hF := (if_neg hc).symm.trans hF
          refine lv_iload hx hb dX5_takeAll_25 (lv_at hl 0 rfl) ?_
          exact ret_IWC Z hr hlk hP hS hF dX5_takeAll_27
  refine lv_iconst (v := (0 : Int32)) hx hb dX5_takeAll_0 ic_0 ?_
  refine lv_istore_n (lv' := [(2, .int (0 : Int32)), (0, .ref (g.1 v0)), (1, .ref (g.1 v1))]) hx hb dX5_takeAll_1 rfl hl (Nat.le_of_ble_eq_true rfl) rfl (fun ls hl => ?_)
  refine lv_iconst (v := (0 : Int32)) hx hb dX5_takeAll_2 ic_0 ?_
  refine lv_istore_n (lv' := [(3, .int (0 : Int32)), (2, .int (0 : Int32)), (0, .ref (g.1 v0)), (1, .ref (g.1 v1))]) hx hb dX5_takeAll_3 rfl hl (Nat.le_of_ble_eq_true rfl) rfl (fun ls hl => ?_)
  exact (hL4 FU) _ _ _ hF _ _ _ (lv_sub hl [2, 3, 1, 0] rfl) hP hS
theorem xX5_takeAll {p : Program} {l : Launch} {e : Env} {R : Room} {s : State} {m : MethodId} {args : Array Value} {below : List Frame} {meth : Method} {c : Code} {H : Heap} {locs : List Loc} {Q : State → Prop} {cc : ByteArray} {nL : Nat} {own : String} {g : GG} {pc index : Nat} {ls : Array Slot} {rest : List Value} {mc mm : Mem} (Z : ZZ p s m args c cc nL own g) (hP : va_P g.2.2.1 vwCl (wL g mc mm) H) (hS : va_S (AA g s.heap.size) s.heap H locs) {v0 : Nat} {v1 : Nat} (h0 : isO 5 v0) (h1 : isO 7 v1) {q : Int32 × Mem} (hq : F5_takeAll v0 v1 mc = some q) (hlk : Cond.methodLink own index yX5_takeAll ∈ wsL_law) (hsz : ls.size = nL) (hro : (rest.map fun v => v.category).sum ≤ 8) (hR : 6 + 1 ≤ R.frames ∧ 8 + (5 + 11) + 153 ≤ R.locals) (hdg : decode cc pc = .ok (.invokevirtual index, 3)) (kk : ∀ (H : Heap) (locs : List Loc), va_P g.2.2.1 vwCl (wL g q.2 mm) H → va_S (AA g s.heap.size) s.heap H locs → W p l e R s m args below meth c H locs 0 0 Q (F0 m (pc + 3) ls (.int q.1 :: rest))) : W p l e R s m args below meth c H locs 0 0 Q (F0 m pc ls (.ref (g.1 v1) :: .ref (g.1 v0) :: rest)) :=
  x_VI Z hP hS (kX5_takeAll l g v0 v1 h0 h1 mc mm q hq) (isO_w h0) (ci := 5) (by decide) rfl rfl mf_X5_takeAll mv_X5_takeAll hlk rfl rfl hsz hro hR hdg kk

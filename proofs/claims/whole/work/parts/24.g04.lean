theorem dX5_take_0 : decode cX5_take 0 = .ok (.aload_n 0, 1) := by decide +kernel
theorem dX5_take_1 : decode cX5_take 1 = .ok (.iconst 0, 1) := by decide +kernel
theorem dX5_take_2 : decode cX5_take 2 = .ok (.putfield 27, 3) := by decide +kernel
theorem dX5_take_5 : decode cX5_take 5 = .ok (.aload_n 1, 1) := by decide +kernel
theorem dX5_take_6 : decode cX5_take 6 = .ok (.getfield 31, 3) := by decide +kernel
theorem dX5_take_9 : decode cX5_take 9 = .ok (.ifCond .ne 7, 3) := by decide +kernel
theorem dX5_take_12 : decode cX5_take 12 = .ok (.iconst (-1), 1) := by decide +kernel
theorem dX5_take_13 : decode cX5_take 13 = .ok (.goto 8, 3) := by decide +kernel
theorem dX5_take_16 : decode cX5_take 16 = .ok (.aload_n 0, 1) := by decide +kernel
theorem dX5_take_17 : decode cX5_take 17 = .ok (.aload_n 1, 1) := by decide +kernel
theorem dX5_take_18 : decode cX5_take 18 = .ok (.invokevirtual 36, 3) := by decide +kernel
theorem dX5_take_21 : decode cX5_take 21 = .ok (.istore_n 2, 1) := by decide +kernel
theorem dX5_take_22 : decode cX5_take 22 = .ok (.iload_n 2, 1) := by decide +kernel
theorem dX5_take_23 : decode cX5_take 23 = .ok (.iconst (-1), 1) := by decide +kernel
theorem dX5_take_24 : decode cX5_take 24 = .ok (.if_icmp .eq 8, 3) := by decide +kernel
theorem dX5_take_27 : decode cX5_take 27 = .ok (.aload_n 0, 1) := by decide +kernel
theorem dX5_take_28 : decode cX5_take 28 = .ok (.iconst 0, 1) := by decide +kernel
theorem dX5_take_29 : decode cX5_take 29 = .ok (.putfield 27, 3) := by decide +kernel
theorem dX5_take_32 : decode cX5_take 32 = .ok (.iload_n 2, 1) := by decide +kernel
theorem dX5_take_33 : decode cX5_take 33 = .ok (.ireturn, 1) := by decide +kernel
noncomputable def F5_take_b21 (v0 : Nat) (v1 : Nat) (s0 : Int32) (M : Mem) : Option (Int32 × Mem) :=
  (if s0 = (-1 : Int32) then some (s0, M) else some (s0, (mset M v0 5 (0 : Int32))))
noncomputable def F5_take (v0 : Nat) (v1 : Nat) (mc : Mem) : Option (Int32 × Mem) :=
  (lt (mset mc v0 5 (0 : Int32)) (fun M3 => (if (M3 v1 1) = (0 : Int32) then (F5_take_b21 v0 v1) (-1 : Int32) M3 else ((F5_takeAll v0 v1 M3).bind (fun q4 => ((F5_take_b21 v0 v1) q4.1 q4.2))))))
set_option maxHeartbeats 4000000 in
set_option maxRecDepth 100000 in
theorem kX5_take (l : Launch) (g : GG) (v0 : Nat) (v1 : Nat) (h0 : isO 5 v0) (h1 : isO 7 v1) (mc mm : Mem) (q : Int32 × Mem) (hF : F5_take v0 v1 mc = some q) : KI l yX5_take cX5_take 3 .int 7 177 g [.ref (g.1 v0), .ref (g.1 v1)] mc mm q.1 (q.2, mm) := by
  intro sz
  refine x_start (Qc := fun z => QI g z q.1 (q.2, mm)) (by decide +kernel) (Nat.le_of_ble_eq_true rfl) ?_ sz
  intro p e s m args below meth c ls Z hr hlk hP hl
  have hx := Z.1.1
  have hb := Z.1.2.1
  have hown := Z.1.2.2.2.1
  have hts := Z.1.2.2.2.2
  have hS : va_S (AA g s.heap.size) s.heap s.heap [] := va_S.rf
  have hl : lv_has ls 3 [(0, .ref (g.1 v0)), (1, .ref (g.1 v1))] := hl
  unfold F5_take at hF
  have hb21 : ∀ (s0 : Int32) (M : Mem), F5_take_b21 v0 v1 s0 M = some q → ∀ (H : Heap) (locs : List Loc) (ls : Array Slot), lv_has ls 3 [(0, .ref (g.1 v0))] → va_P g.2.2.1 vwCl (wL g M mm) H → va_S (AA g s.heap.size) s.heap H locs → W p l e { frames := 7, cells := 0, slots := 0, locals := 177 } s m args below meth c H locs 0 0 (MQ below (QI g s.heap.size q.1 (q.2, mm)) args s 0 0 (AA g s.heap.size)) (F0 m 21 ls [.int s0]) := by
    intro s0 M hF H locs ls hl hP hS
    unfold F5_take_b21 at hF
    refine lv_istore_n (lv' := [(2, .int s0), (0, .ref (g.1 v0))]) hx hb dX5_take_21 rfl hl (Nat.le_of_ble_eq_true rfl) rfl (fun ls hl => ?_)
    refine lv_iload_n hx hb dX5_take_22 rfl (lv_at hl 0 rfl) ?_
    refine lv_iconst (v := (-1 : Int32)) hx hb dX5_take_23 ic_m1 ?_
    refine lv_icmp_eq (tgt := 32) hx hb dX5_take_24 rfl (fun hc => ?_) (fun hc => ?_)
    · have hF := (if_pos hc).symm.trans hF
      refine lv_iload_n hx hb dX5_take_32 rfl (lv_at hl 0 rfl) ?_
      exact ret_IWC Z hr hlk hP hS hF dX5_take_33
    · have hF := (if_neg hc).symm.trans hF
      refine lv_aload_n hx hb dX5_take_27 rfl (lv_at hl 1 rfl) ?_
      refine lv_iconst (v := (0 : Int32)) hx hb dX5_take_28 ic_0 ?_
      refine pf5_5 Z hP hS h0 wd_12_6 dX5_take_29 (fun H locs hP hS => ?_)
      refine lv_iload_n hx hb dX5_take_32 rfl (lv_at hl 0 rfl) ?_
      exact ret_IWC Z hr hlk hP hS hF dX5_take_33
  refine lv_aload_n hx hb dX5_take_0 rfl (lv_at hl 0 rfl) ?_
  refine lv_iconst (v := (0 : Int32)) hx hb dX5_take_1 ic_0 ?_
  refine pf5_5 Z hP hS h0 wd_12_6 dX5_take_2 (fun H locs hP hS => ?_)
  refine lv_aload_n hx hb dX5_take_5 rfl (lv_at hl 1 rfl) ?_
  obtain ⟨M3, eM3, hF⟩ := lt_ok hF
  have hP : va_P g.2.2.1 vwCl (wL g M3 mm) H := by rw [eM3]; exact hP
  refine gf7_1N Z hP h1 nf_45 dX5_take_6 ?_
  refine lv_if_ne (tgt := 16) hx hb dX5_take_9 rfl (fun hc => ?_) (fun hc => ?_)
  · have hF := (if_neg hc).symm.trans hF
    refine lv_aload_n hx hb dX5_take_16 rfl (lv_at hl 0 rfl) ?_
    refine lv_aload_n hx hb dX5_take_17 rfl (lv_at hl 1 rfl) ?_
    obtain ⟨q4, hq4, hF⟩ := bd_ok hF
    refine xX5_takeAll Z hP hS h0 h1 hq4 wd_12_7 hl.1 (Nat.le_of_ble_eq_true rfl) ⟨Nat.le_of_ble_eq_true rfl, Nat.le_of_ble_eq_true rfl⟩ dX5_take_18 (fun H locs hP hS => ?_)
    exact hb21 _ _ hF _ _ _ (lv_sub hl [0] rfl) hP hS
  · have hF := (if_pos hc).symm.trans hF
    refine lv_iconst (v := (-1 : Int32)) hx hb dX5_take_12 ic_m1 ?_
    refine lv_goto (tgt := 21) hx hb dX5_take_13 rfl ?_
    exact hb21 _ _ hF _ _ _ (lv_sub hl [0] rfl) hP hS
theorem xX5_take {p : Program} {l : Launch} {e : Env} {R : Room} {s : State} {m : MethodId} {args : Array Value} {below : List Frame} {meth : Method} {c : Code} {H : Heap} {locs : List Loc} {Q : State → Prop} {cc : ByteArray} {nL : Nat} {own : String} {g : GG} {pc index : Nat} {ls : Array Slot} {rest : List Value} {mc mm : Mem} (Z : ZZ p s m args c cc nL own g) (hP : va_P g.2.2.1 vwCl (wL g mc mm) H) (hS : va_S (AA g s.heap.size) s.heap H locs) {v0 : Nat} {v1 : Nat} (h0 : isO 5 v0) (h1 : isO 7 v1) {q : Int32 × Mem} (hq : F5_take v0 v1 mc = some q) (hlk : Cond.methodLink own index yX5_take ∈ wsL_law) (hsz : ls.size = nL) (hro : (rest.map fun v => v.category).sum ≤ 8) (hR : 7 + 1 ≤ R.frames ∧ 8 + (3 + 11) + 177 ≤ R.locals) (hdg : decode cc pc = .ok (.invokevirtual index, 3)) (kk : ∀ (H : Heap) (locs : List Loc), va_P g.2.2.1 vwCl (wL g q.2 mm) H → va_S (AA g s.heap.size) s.heap H locs → W p l e R s m args below meth c H locs 0 0 Q (F0 m (pc + 3) ls (.int q.1 :: rest))) : W p l e R s m args below meth c H locs 0 0 Q (F0 m pc ls (.ref (g.1 v1) :: .ref (g.1 v0) :: rest)) :=
  x_VI Z hP hS (kX5_take l g v0 v1 h0 h1 mc mm q hq) (isO_w h0) (ci := 5) (by decide) rfl rfl mf_X5_take mv_X5_take hlk rfl rfl hsz hro hR hdg kk
theorem dX5_letter_0 : decode cX5_letter 0 = .ok (.iload_n 1, 1) := by decide +kernel
theorem dX5_letter_1 : decode cX5_letter 1 = .ok (.aload_n 0, 1) := by decide +kernel
theorem dX5_letter_2 : decode cX5_letter 2 = .ok (.getfield 27, 3) := by decide +kernel
theorem dX5_letter_5 : decode cX5_letter 5 = .ok (.invokestatic 61, 3) := by decide +kernel
theorem dX5_letter_8 : decode cX5_letter 8 = .ok (.ifCond .eq 29, 3) := by decide +kernel
theorem dX5_letter_11 : decode cX5_letter 11 = .ok (.iload_n 2, 1) := by decide +kernel
theorem dX5_letter_12 : decode cX5_letter 12 = .ok (.aload_n 0, 1) := by decide +kernel
theorem dX5_letter_13 : decode cX5_letter 13 = .ok (.getfield 21, 3) := by decide +kernel
theorem dX5_letter_16 : decode cX5_letter 16 = .ok (.iload_n 1, 1) := by decide +kernel
theorem dX5_letter_17 : decode cX5_letter 17 = .ok (.iaload, 1) := by decide +kernel
theorem dX5_letter_18 : decode cX5_letter 18 = .ok (.invokestatic 61, 3) := by decide +kernel
theorem dX5_letter_21 : decode cX5_letter 21 = .ok (.ifCond .eq 16, 3) := by decide +kernel
theorem dX5_letter_24 : decode cX5_letter 24 = .ok (.aload_n 0, 1) := by decide +kernel
theorem dX5_letter_25 : decode cX5_letter 25 = .ok (.getfield 24, 3) := by decide +kernel
theorem dX5_letter_28 : decode cX5_letter 28 = .ok (.iload_n 1, 1) := by decide +kernel
theorem dX5_letter_29 : decode cX5_letter 29 = .ok (.iconst 4, 1) := by decide +kernel
theorem dX5_letter_30 : decode cX5_letter 30 = .ok (.imul, 1) := by decide +kernel
theorem dX5_letter_31 : decode cX5_letter 31 = .ok (.iload_n 2, 1) := by decide +kernel
theorem dX5_letter_32 : decode cX5_letter 32 = .ok (.iadd, 1) := by decide +kernel
theorem dX5_letter_33 : decode cX5_letter 33 = .ok (.iaload, 1) := by decide +kernel
theorem dX5_letter_34 : decode cX5_letter 34 = .ok (.goto 4, 3) := by decide +kernel
theorem dX5_letter_37 : decode cX5_letter 37 = .ok (.iconst (-1), 1) := by decide +kernel
theorem dX5_letter_38 : decode cX5_letter 38 = .ok (.ireturn, 1) := by decide +kernel
noncomputable def F5_letter_b37 (v0 : Nat) (v1 : Int32) (v2 : Int32) (mc : Mem) : Option (Int32) :=
  some (-1 : Int32)
noncomputable def F5_letter (v0 : Nat) (v1 : Int32) (v2 : Int32) (mc : Mem) : Option (Int32) :=
  ((F9_in v1 (mc v0 5)).bind (fun q5 => (if q5 = (0 : Int32) then (F5_letter_b37 v0 v1 v2 mc) else (ck v1 8 ((F9_in v2 (mc (v0 + 4) v1.toNatClampNeg)).bind (fun q7 => (if q7 = (0 : Int32) then (F5_letter_b37 v0 v1 v2 mc) else (ck ((v1 * (4 : Int32)) + v2) 32 (some (mc (v0 + 5) ((v1 * (4 : Int32)) + v2).toNatClampNeg))))))))))
set_option maxHeartbeats 4000000 in
set_option maxRecDepth 100000 in
theorem kX5_letter (l : Launch) (g : GG) (v0 : Nat) (v1 : Int32) (v2 : Int32) (h0 : isO 5 v0) (mc mm : Mem) (q : Int32) (hF : F5_letter v0 v1 v2 mc = some q) : KI l yX5_letter cX5_letter 3 .int 1 21 g [.ref (g.1 v0), .int v1, .int v2] mc mm q (mc, mm) := by
  intro sz
  refine x_start (Qc := fun z => QI g z q (mc, mm)) (by decide +kernel) (Nat.le_of_ble_eq_true rfl) ?_ sz
  intro p e s m args below meth c ls Z hr hlk hP hl
  have hx := Z.1.1
  have hb := Z.1.2.1
  have hown := Z.1.2.2.2.1
  have hts := Z.1.2.2.2.2
  have hS : va_S (AA g s.heap.size) s.heap s.heap [] := va_S.rf
  have hl : lv_has ls 3 [(0, .ref (g.1 v0)), (1, .int v1), (2, .int v2)] := hl
  unfold F5_letter at hF
  have hb37 : F5_letter_b37 v0 v1 v2 mc = some q → ∀ (H : Heap) (locs : List Loc) (ls : Array Slot), lv_has ls 3 [] → va_P g.2.2.1 vwCl (wL g mc mm) H → va_S (AA g s.heap.size) s.heap H locs → W p l e { frames := 1, cells := 0, slots := 0, locals := 21 } s m args below meth c H locs 0 0 (MQ below (QI g s.heap.size q (mc, mm)) args s 0 0 (AA g s.heap.size)) (F0 m 37 ls []) := by
    intro hF H locs ls hl hP hS
    unfold F5_letter_b37 at hF
    refine lv_iconst (v := (-1 : Int32)) hx hb dX5_letter_37 ic_m1 ?_
    exact ret_I Z hr hlk hP hS hF dX5_letter_38
  refine lv_iload_n hx hb dX5_letter_0 rfl (lv_at hl 1 rfl) ?_
  refine lv_aload_n hx hb dX5_letter_1 rfl (lv_at hl 0 rfl) ?_
  refine gf5_5 Z hP h0 wd_12_6 dX5_letter_2 ?_
  obtain ⟨q5, hq5, hF⟩ := bd_ok hF
  refine xX9_inN Z hP hS hq5 nm_10 hl.1 (Nat.le_of_ble_eq_true rfl) ⟨Nat.le_of_ble_eq_true rfl, Nat.le_of_ble_eq_true rfl⟩ dX5_letter_5 (fun H locs hP hS => ?_)
  refine lv_if_eq (tgt := 37) hx hb dX5_letter_8 rfl (fun hc => ?_) (fun hc => ?_)
  · have hF := (if_pos hc).symm.trans hF
    exact hb37  hF _ _ _ (lv_sub hl [] rfl) hP hS
  · have hF := (if_neg hc).symm.trans hF
    refine lv_iload_n hx hb dX5_letter_11 rfl (lv_at hl 2 rfl) ?_
    refine lv_aload_n hx hb dX5_letter_12 rfl (lv_at hl 0 rfl) ?_
    refine gf5_3 Z hP h0 wd_4_9 dX5_letter_13 ?_
    refine lv_iload_n hx hb dX5_letter_16 rfl (lv_at hl 1 rfl) ?_
    obtain ⟨hi6, hF⟩ := ck_ok hF
    refine ra_ld Z hP (ia_5_3 h0) hi6 dX5_letter_17 ?_
    obtain ⟨q7, hq7, hF⟩ := bd_ok hF
    refine xX9_inN Z hP hS hq7 nm_10 hl.1 (Nat.le_of_ble_eq_true rfl) ⟨Nat.le_of_ble_eq_true rfl, Nat.le_of_ble_eq_true rfl⟩ dX5_letter_18 (fun H locs hP hS => ?_)
    refine lv_if_eq (tgt := 37) hx hb dX5_letter_21 rfl (fun hc => ?_) (fun hc => ?_)
    · have hF := (if_pos hc).symm.trans hF
      exact hb37  hF _ _ _ (lv_sub hl [] rfl) hP hS
    · have hF := (if_neg hc).symm.trans hF
      refine lv_aload_n hx hb dX5_letter_24 rfl (lv_at hl 0 rfl) ?_
      refine gf5_4 Z hP h0 wd_4_10 dX5_letter_25 ?_
      refine lv_iload_n hx hb dX5_letter_28 rfl (lv_at hl 1 rfl) ?_
      refine lv_iconst (v := (4 : Int32)) hx hb dX5_letter_29 ic_4 ?_
      refine lv_imul hx hb dX5_letter_30 ?_
      refine lv_iload_n hx hb dX5_letter_31 rfl (lv_at hl 2 rfl) ?_
      refine lv_iadd hx hb dX5_letter_32 ?_
      obtain ⟨hi8, hF⟩ := ck_ok hF
      refine ra_ld Z hP (ia_5_4 h0) hi8 dX5_letter_33 ?_
      refine lv_goto (tgt := 38) hx hb dX5_letter_34 rfl ?_
      exact ret_I Z hr hlk hP hS hF dX5_letter_38
theorem xX5_letter {p : Program} {l : Launch} {e : Env} {R : Room} {s : State} {m : MethodId} {args : Array Value} {below : List Frame} {meth : Method} {c : Code} {H : Heap} {locs : List Loc} {Q : State → Prop} {cc : ByteArray} {nL : Nat} {own : String} {g : GG} {pc index : Nat} {ls : Array Slot} {rest : List Value} {mc mm : Mem} (Z : ZZ p s m args c cc nL own g) (hP : va_P g.2.2.1 vwCl (wL g mc mm) H) (hS : va_S (AA g s.heap.size) s.heap H locs) {v0 : Nat} {v1 : Int32} {v2 : Int32} (h0 : isO 5 v0) {q : Int32} (hq : F5_letter v0 v1 v2 mc = some q) (hlk : Cond.methodLink own index yX5_letter ∈ wsL_law) (hsz : ls.size = nL) (hro : (rest.map fun v => v.category).sum ≤ 8) (hR : 1 + 1 ≤ R.frames ∧ 8 + (3 + 11) + 21 ≤ R.locals) (hdg : decode cc pc = .ok (.invokevirtual index, 3)) (kk : ∀ (H : Heap) (locs : List Loc), va_P g.2.2.1 vwCl (wL g mc mm) H → va_S (AA g s.heap.size) s.heap H locs → W p l e R s m args below meth c H locs 0 0 Q (F0 m (pc + 3) ls (.int q :: rest))) : W p l e R s m args below meth c H locs 0 0 Q (F0 m pc ls (.int v2 :: .int v1 :: .ref (g.1 v0) :: rest)) :=
  x_VI Z hP hS (kX5_letter l g v0 v1 v2 h0 mc mm q hq) (isO_w h0) (ci := 5) (by decide) rfl rfl mf_X5_letter mv_X5_letter hlk rfl rfl hsz hro hR hdg kk
theorem dJ7_fill_53178_0 : decode cJ7_fill_53178 0 = .ok (.iconst 0, 1) := by decide +kernel
theorem dJ7_fill_53178_1 : decode cJ7_fill_53178 1 = .ok (.istore_n 2, 1) := by decide +kernel
theorem dJ7_fill_53178_2 : decode cJ7_fill_53178 2 = .ok (.aload_n 0, 1) := by decide +kernel
theorem dJ7_fill_53178_3 : decode cJ7_fill_53178 3 = .ok (.arraylength, 1) := by decide +kernel
theorem dJ7_fill_53178_4 : decode cJ7_fill_53178 4 = .ok (.istore_n 3, 1) := by decide +kernel
theorem dJ7_fill_53178_5 : decode cJ7_fill_53178 5 = .ok (.iload_n 2, 1) := by decide +kernel
theorem dJ7_fill_53178_6 : decode cJ7_fill_53178 6 = .ok (.iload_n 3, 1) := by decide +kernel
theorem dJ7_fill_53178_7 : decode cJ7_fill_53178 7 = .ok (.if_icmp .ge 13, 3) := by decide +kernel
theorem dJ7_fill_53178_10 : decode cJ7_fill_53178 10 = .ok (.aload_n 0, 1) := by decide +kernel
theorem dJ7_fill_53178_11 : decode cJ7_fill_53178 11 = .ok (.iload_n 2, 1) := by decide +kernel
theorem dJ7_fill_53178_12 : decode cJ7_fill_53178 12 = .ok (.iload_n 1, 1) := by decide +kernel
theorem dJ7_fill_53178_13 : decode cJ7_fill_53178 13 = .ok (.iastore, 1) := by decide +kernel
theorem dJ7_fill_53178_14 : decode cJ7_fill_53178 14 = .ok (.iinc 2 1, 3) := by decide +kernel
theorem dJ7_fill_53178_17 : decode cJ7_fill_53178 17 = .ok (.goto (-12), 3) := by decide +kernel
theorem dJ7_fill_53178_20 : decode cJ7_fill_53178 20 = .ok (.return_, 1) := by decide +kernel
noncomputable def F7_fill_53178_p5 (kh : Int32 → Int32 → Mem → Option (Mem)) (v0 : Nat) (v1 : Int32) (a2 : Int32) (a3 : Int32) (M : Mem) : Option (Mem) :=
  (if a3 ≤ a2 then some M else (ck a2 (ln v0) (kh (a2 + (1 : Int32)) a3 (mset M v0 a2.toNatClampNeg v1))))
noncomputable def F7_fill_53178_h5 (v0 : Nat) (v1 : Int32) : Nat → Int32 → Int32 → Mem → Option (Mem)
  | 0, _, _, _ => none
  | n + 1, a2, a3, M => F7_fill_53178_p5 (F7_fill_53178_h5 v0 v1 n) v0 v1 a2 a3 M
noncomputable def F7_fill_53178 (v0 : Nat) (v1 : Int32) (mc : Mem) : Option (Mem) :=
  (F7_fill_53178_h5 v0 v1 FU) (0 : Int32) (Int32.ofNat (ln v0)) mc
set_option maxHeartbeats 4000000 in
set_option maxRecDepth 100000 in
theorem kJ7_fill_53178 (l : Launch) (g : GG) (v0 : Nat) (v1 : Int32) (h0 : isA (ln v0) v0) (mc mm : Mem) (q : Mem) (hF : F7_fill_53178 v0 v1 mc = some q) : KV l yJ7_fill_53178 cJ7_fill_53178 4 0 0 g [.ref (g.1 v0), .int v1] mc mm (q, mm) := by
  intro sz
  refine x_start (Qc := fun z => QV g z (q, mm)) (by decide +kernel) (Nat.le_of_ble_eq_true rfl) ?_ sz
  intro p e s m args below meth c ls Z hr hlk hP hl
  have hx := Z.1.1
  have hb := Z.1.2.1
  have hown := Z.1.2.2.2.1
  have hts := Z.1.2.2.2.2
  have hS : va_S (AA g s.heap.size) s.heap s.heap [] := va_S.rf
  have hl : lv_has ls 4 [(0, .ref (g.1 v0)), (1, .int v1)] := hl
  unfold F7_fill_53178 at hF
  have hL5 : ∀ n : Nat, ∀ (a2 : Int32) (a3 : Int32) (M : Mem), F7_fill_53178_h5 v0 v1 n a2 a3 M = some q → ∀ (H : Heap) (locs : List Loc) (ls : Array Slot), lv_has ls 4 [(0, .ref (g.1 v0)), (1, .int v1), (2, .int a2), (3, .int a3)] → va_P g.2.2.1 vwCl (wL g M mm) H → va_S (AA g s.heap.size) s.heap H locs → W p l e { frames := 0, cells := 0, slots := 0, locals := 0 } s m args below meth c H locs 0 0 (MQ below (QV g s.heap.size (q, mm)) args s 0 0 (AA g s.heap.size)) (F0 m 5 ls []) := by
    intro n
    induction n with
    | zero => intro a2 a3 M hF H locs ls hl hP hS; exact absurd hF (fun z => nomatch (show (none : Option _) = some q from z))
    | succ n ih =>
      generalize hkh : F7_fill_53178_h5 v0 v1 n = kh at ih
      intro a2 a3 M hF H locs ls hl hP hS
      have hF : F7_fill_53178_p5 (F7_fill_53178_h5 v0 v1 n) v0 v1 a2 a3 M = some q := hF
      rw [hkh] at hF
      unfold F7_fill_53178_p5 at hF
      refine lv_iload_n hx hb dJ7_fill_53178_5 rfl (lv_at hl 2 rfl) ?_
      refine lv_iload_n hx hb dJ7_fill_53178_6 rfl (lv_at hl 3 rfl) ?_
      refine lv_icmp_ge (tgt := 20) hx hb dJ7_fill_53178_7 rfl (fun hc => ?_) (fun hc => ?_)
      · have hF := (if_pos hc).symm.trans hF
        exact ret_VWC Z hr hlk hP hS hF dJ7_fill_53178_20
      · have hF := (if_neg hc).symm.trans hF
        refine lv_aload_n hx hb dJ7_fill_53178_10 rfl (lv_at hl 0 rfl) ?_
        refine lv_iload_n hx hb dJ7_fill_53178_11 rfl (lv_at hl 2 rfl) ?_
        refine lv_iload_n hx hb dJ7_fill_53178_12 rfl (lv_at hl 1 rfl) ?_
        obtain ⟨hi2, hF⟩ := ck_ok hF
        refine ra_st Z hP hS h0 hi2 dJ7_fill_53178_13 (fun H locs hP hS => ?_)
        refine lv_iinc (lv' := [(2, .int (a2 + (1 : Int32))), (0, .ref (g.1 v0)), (1, .int v1), (3, .int a3)]) (v := (a2 + (1 : Int32))) hx hb dJ7_fill_53178_14 hl (k := 2) rfl (io_1 _) (Nat.le_of_ble_eq_true rfl) rfl (fun ls hl => ?_)
        refine lv_goto (tgt := 5) hx hb dJ7_fill_53178_17 rfl ?_
        exact ih _ _ _ hF _ _ _ (lv_sub hl [1, 2, 0, 3] rfl) hP hS
  refine lv_iconst (v := (0 : Int32)) hx hb dJ7_fill_53178_0 ic_0 ?_
  refine lv_istore_n (lv' := [(2, .int (0 : Int32)), (0, .ref (g.1 v0)), (1, .int v1)]) hx hb dJ7_fill_53178_1 rfl hl (Nat.le_of_ble_eq_true rfl) rfl (fun ls hl => ?_)
  refine lv_aload_n hx hb dJ7_fill_53178_2 rfl (lv_at hl 1 rfl) ?_
  refine ra_len Z hP h0 dJ7_fill_53178_3 ?_
  refine lv_istore_n (lv' := [(3, .int (Int32.ofNat (ln v0))), (2, .int (0 : Int32)), (0, .ref (g.1 v0)), (1, .int v1)]) hx hb dJ7_fill_53178_4 rfl hl (Nat.le_of_ble_eq_true rfl) rfl (fun ls hl => ?_)
  exact (hL5 FU) _ _ _ hF _ _ _ (lv_sub hl [2, 3, 1, 0] rfl) hP hS
theorem xJ7_fill_53178 {p : Program} {l : Launch} {e : Env} {R : Room} {s : State} {m : MethodId} {args : Array Value} {below : List Frame} {meth : Method} {c : Code} {H : Heap} {locs : List Loc} {Q : State → Prop} {cc : ByteArray} {nL : Nat} {own : String} {g : GG} {pc index : Nat} {ls : Array Slot} {rest : List Value} {mc mm : Mem} (Z : ZZ p s m args c cc nL own g) (hP : va_P g.2.2.1 vwCl (wL g mc mm) H) (hS : va_S (AA g s.heap.size) s.heap H locs) {v0 : Nat} {v1 : Int32} (h0 : isA (ln v0) v0) {q : Mem} (hq : F7_fill_53178 v0 v1 mc = some q) (hlk : Cond.methodLink own index yJ7_fill_53178 ∈ wsL_law) (hsz : ls.size = nL) (hro : (rest.map fun v => v.category).sum ≤ 8) (hR : 0 + 1 ≤ R.frames ∧ 8 + (4 + 11) + 0 ≤ R.locals) (hdg : decode cc pc = .ok (.invokestatic index, 3)) (kk : ∀ (H : Heap) (locs : List Loc), va_P g.2.2.1 vwCl (wL g q mm) H → va_S (AA g s.heap.size) s.heap H locs → W p l e R s m args below meth c H locs 0 0 Q (F0 m (pc + 3) ls (rest))) : W p l e R s m args below meth c H locs 0 0 Q (F0 m pc ls (.int v1 :: .ref (g.1 v0) :: rest)) :=
  x_SV Z hP hS (kJ7_fill_53178 l g v0 v1 h0 mc mm q hq) mf_J7_fill_53178 wd_28_19 hlk rfl rfl hsz hro hR hdg kk
theorem dX6_renew_0 : decode cX6_renew 0 = .ok (.aload_n 0, 1) := by decide +kernel
theorem dX6_renew_1 : decode cX6_renew 1 = .ok (.iload_n 1, 1) := by decide +kernel
theorem dX6_renew_2 : decode cX6_renew 2 = .ok (.putfield 15, 3) := by decide +kernel
theorem dX6_renew_5 : decode cX6_renew 5 = .ok (.aload_n 0, 1) := by decide +kernel
theorem dX6_renew_6 : decode cX6_renew 6 = .ok (.iload_n 2, 1) := by decide +kernel
theorem dX6_renew_7 : decode cX6_renew 7 = .ok (.putfield 19, 3) := by decide +kernel
theorem dX6_renew_10 : decode cX6_renew 10 = .ok (.aload_n 0, 1) := by decide +kernel
theorem dX6_renew_11 : decode cX6_renew 11 = .ok (.getfield 9, 3) := by decide +kernel
theorem dX6_renew_14 : decode cX6_renew 14 = .ok (.iconst 0, 1) := by decide +kernel
theorem dX6_renew_15 : decode cX6_renew 15 = .ok (.invokestatic 22, 3) := by decide +kernel
theorem dX6_renew_18 : decode cX6_renew 18 = .ok (.return_, 1) := by decide +kernel
noncomputable def F6_renew (v0 : Nat) (v1 : Int32) (v2 : Int32) (mc : Mem) : Option (Mem) :=
  (lt (mset (mset mc v0 1 v1) v0 2 v2) (fun M3 => ((F7_fill_53178 (v0 + 1) (0 : Int32) M3).bind (fun q4 => (some q4)))))
set_option maxHeartbeats 4000000 in
set_option maxRecDepth 100000 in
theorem kX6_renew (l : Launch) (g : GG) (v0 : Nat) (v1 : Int32) (v2 : Int32) (h0 : isO 6 v0) (mc mm : Mem) (q : Mem) (hF : F6_renew v0 v1 v2 mc = some q) : KV l yX6_renew cX6_renew 3 1 23 g [.ref (g.1 v0), .int v1, .int v2] mc mm (q, mm) := by
  intro sz
  refine x_start (Qc := fun z => QV g z (q, mm)) (by decide +kernel) (Nat.le_of_ble_eq_true rfl) ?_ sz
  intro p e s m args below meth c ls Z hr hlk hP hl
  have hx := Z.1.1
  have hb := Z.1.2.1
  have hown := Z.1.2.2.2.1
  have hts := Z.1.2.2.2.2
  have hS : va_S (AA g s.heap.size) s.heap s.heap [] := va_S.rf
  have hl : lv_has ls 3 [(0, .ref (g.1 v0)), (1, .int v1), (2, .int v2)] := hl
  unfold F6_renew at hF
  refine lv_aload_n hx hb dX6_renew_0 rfl (lv_at hl 0 rfl) ?_
  refine lv_iload_n hx hb dX6_renew_1 rfl (lv_at hl 1 rfl) ?_
  refine pf6_1 Z hP hS h0 wd_5_3 dX6_renew_2 (fun H locs hP hS => ?_)
  refine lv_aload_n hx hb dX6_renew_5 rfl (lv_at hl 0 rfl) ?_
  refine lv_iload_n hx hb dX6_renew_6 rfl (lv_at hl 2 rfl) ?_
  refine pf6_2 Z hP hS h0 wd_39_15 dX6_renew_7 (fun H locs hP hS => ?_)
  refine lv_aload_n hx hb dX6_renew_10 rfl (lv_at hl 0 rfl) ?_
  refine gf6_0 Z hP h0 wd_5_2 dX6_renew_11 ?_
  refine lv_iconst (v := (0 : Int32)) hx hb dX6_renew_14 ic_0 ?_
  obtain ⟨M3, eM3, hF⟩ := lt_ok hF
  have hP : va_P g.2.2.1 vwCl (wL g M3 mm) H := by rw [eM3]; exact hP
  obtain ⟨q4, hq4, hF⟩ := bd_ok hF
  refine xJ7_fill_53178 Z hP hS (isA_ln (ia_6_0 h0)) hq4 wd_39_16 hl.1 (Nat.le_of_ble_eq_true rfl) ⟨Nat.le_of_ble_eq_true rfl, Nat.le_of_ble_eq_true rfl⟩ dX6_renew_15 (fun H locs hP hS => ?_)
  exact ret_VWC Z hr hlk hP hS hF dX6_renew_18
theorem xX6_renew {p : Program} {l : Launch} {e : Env} {R : Room} {s : State} {m : MethodId} {args : Array Value} {below : List Frame} {meth : Method} {c : Code} {H : Heap} {locs : List Loc} {Q : State → Prop} {cc : ByteArray} {nL : Nat} {own : String} {g : GG} {pc index : Nat} {ls : Array Slot} {rest : List Value} {mc mm : Mem} (Z : ZZ p s m args c cc nL own g) (hP : va_P g.2.2.1 vwCl (wL g mc mm) H) (hS : va_S (AA g s.heap.size) s.heap H locs) {v0 : Nat} {v1 : Int32} {v2 : Int32} (h0 : isO 6 v0) {q : Mem} (hq : F6_renew v0 v1 v2 mc = some q) (hlk : Cond.methodLink own index yX6_renew ∈ wsL_law) (hsz : ls.size = nL) (hro : (rest.map fun v => v.category).sum ≤ 8) (hR : 1 + 1 ≤ R.frames ∧ 8 + (3 + 11) + 23 ≤ R.locals) (hdg : decode cc pc = .ok (.invokevirtual index, 3)) (kk : ∀ (H : Heap) (locs : List Loc), va_P g.2.2.1 vwCl (wL g q mm) H → va_S (AA g s.heap.size) s.heap H locs → W p l e R s m args below meth c H locs 0 0 Q (F0 m (pc + 3) ls (rest))) : W p l e R s m args below meth c H locs 0 0 Q (F0 m pc ls (.int v2 :: .int v1 :: .ref (g.1 v0) :: rest)) :=
  x_VV Z hP hS (kX6_renew l g v0 v1 v2 h0 mc mm q hq) (isO_w h0) (ci := 6) (by decide) rfl rfl mf_X6_renew mv_X6_renew hlk rfl rfl hsz hro hR hdg kk
theorem dX6_isLost_0 : decode cX6_isLost 0 = .ok (.aload_n 0, 1) := by decide +kernel
theorem dX6_isLost_1 : decode cX6_isLost 1 = .ok (.getfield 15, 3) := by decide +kernel
theorem dX6_isLost_4 : decode cX6_isLost 4 = .ok (.iconst (-1), 1) := by decide +kernel
theorem dX6_isLost_5 : decode cX6_isLost 5 = .ok (.if_icmp .ne 7, 3) := by decide +kernel
theorem dX6_isLost_8 : decode cX6_isLost 8 = .ok (.iconst 1, 1) := by decide +kernel
theorem dX6_isLost_9 : decode cX6_isLost 9 = .ok (.goto 4, 3) := by decide +kernel
theorem dX6_isLost_12 : decode cX6_isLost 12 = .ok (.iconst 0, 1) := by decide +kernel
theorem dX6_isLost_13 : decode cX6_isLost 13 = .ok (.ireturn, 1) := by decide +kernel
noncomputable def F6_isLost (v0 : Nat) (mc : Mem) : Option (Int32) :=
  (if (mc v0 1) = (-1 : Int32) then some (1 : Int32) else some (0 : Int32))
set_option maxHeartbeats 4000000 in
set_option maxRecDepth 100000 in
theorem kX6_isLost (l : Launch) (g : GG) (v0 : Nat) (h0 : isO 6 v0) (mc mm : Mem) (q : Int32) (hF : F6_isLost v0 mc = some q) : KI l yX6_isLost cX6_isLost 1 .boolean 0 0 g [.ref (g.1 v0)] mc mm q (mc, mm) := by
  intro sz
  refine x_start (Qc := fun z => QI g z q (mc, mm)) (by decide +kernel) (Nat.le_of_ble_eq_true rfl) ?_ sz
  intro p e s m args below meth c ls Z hr hlk hP hl
  have hx := Z.1.1
  have hb := Z.1.2.1
  have hown := Z.1.2.2.2.1
  have hts := Z.1.2.2.2.2
  have hS : va_S (AA g s.heap.size) s.heap s.heap [] := va_S.rf
  have hl : lv_has ls 1 [(0, .ref (g.1 v0))] := hl
  unfold F6_isLost at hF
  refine lv_aload_n hx hb dX6_isLost_0 rfl (lv_at hl 0 rfl) ?_
  refine gf6_1 Z hP h0 wd_5_3 dX6_isLost_1 ?_
  refine lv_iconst (v := (-1 : Int32)) hx hb dX6_isLost_4 ic_m1 ?_
  refine lv_icmp_ne (tgt := 12) hx hb dX6_isLost_5 rfl (fun hc => ?_) (fun hc => ?_)
  · have hF := (if_neg hc).symm.trans hF
    refine lv_iconst (v := (0 : Int32)) hx hb dX6_isLost_12 ic_0 ?_
    exact ret_Z Z hr hlk hP hS (Or.inl rfl) hF dX6_isLost_13
  · have hF := (if_pos hc).symm.trans hF
    refine lv_iconst (v := (1 : Int32)) hx hb dX6_isLost_8 ic_1 ?_
    refine lv_goto (tgt := 13) hx hb dX6_isLost_9 rfl ?_
    exact ret_Z Z hr hlk hP hS (Or.inr rfl) hF dX6_isLost_13
theorem xX6_isLost {p : Program} {l : Launch} {e : Env} {R : Room} {s : State} {m : MethodId} {args : Array Value} {below : List Frame} {meth : Method} {c : Code} {H : Heap} {locs : List Loc} {Q : State → Prop} {cc : ByteArray} {nL : Nat} {own : String} {g : GG} {pc index : Nat} {ls : Array Slot} {rest : List Value} {mc mm : Mem} (Z : ZZ p s m args c cc nL own g) (hP : va_P g.2.2.1 vwCl (wL g mc mm) H) (hS : va_S (AA g s.heap.size) s.heap H locs) {v0 : Nat} (h0 : isO 6 v0) {q : Int32} (hq : F6_isLost v0 mc = some q) (hlk : Cond.methodLink own index yX6_isLost ∈ wsL_law) (hsz : ls.size = nL) (hro : (rest.map fun v => v.category).sum ≤ 8) (hR : 0 + 1 ≤ R.frames ∧ 8 + (1 + 11) + 0 ≤ R.locals) (hdg : decode cc pc = .ok (.invokevirtual index, 3)) (kk : ∀ (H : Heap) (locs : List Loc), va_P g.2.2.1 vwCl (wL g mc mm) H → va_S (AA g s.heap.size) s.heap H locs → W p l e R s m args below meth c H locs 0 0 Q (F0 m (pc + 3) ls (.int q :: rest))) : W p l e R s m args below meth c H locs 0 0 Q (F0 m pc ls (.ref (g.1 v0) :: rest)) :=
  x_VI Z hP hS (kX6_isLost l g v0 h0 mc mm q hq) (isO_w h0) (ci := 6) (by decide) rfl rfl mf_X6_isLost mv_X6_isLost hlk rfl rfl hsz hro hR hdg kk
theorem dX6_put_0 : decode cX6_put 0 = .ok (.iload_n 1, 1) := by decide +kernel
theorem dX6_put_1 : decode cX6_put 1 = .ok (.aload_n 0, 1) := by decide +kernel
theorem dX6_put_2 : decode cX6_put 2 = .ok (.getfield 19, 3) := by decide +kernel
theorem dX6_put_5 : decode cX6_put 5 = .ok (.invokestatic 28, 3) := by decide +kernel
theorem dX6_put_8 : decode cX6_put 8 = .ok (.ifCond .eq 35, 3) := by decide +kernel
theorem dX6_put_11 : decode cX6_put 11 = .ok (.aload_n 0, 1) := by decide +kernel
theorem dX6_put_12 : decode cX6_put 12 = .ok (.getfield 9, 3) := by decide +kernel
theorem dX6_put_15 : decode cX6_put 15 = .ok (.iload_n 1, 1) := by decide +kernel
theorem dX6_put_16 : decode cX6_put 16 = .ok (.aload_n 0, 1) := by decide +kernel
theorem dX6_put_17 : decode cX6_put 17 = .ok (.getfield 15, 3) := by decide +kernel
theorem dX6_put_20 : decode cX6_put 20 = .ok (.ifCond .ne 8, 3) := by decide +kernel
theorem dX6_put_23 : decode cX6_put 23 = .ok (.iload_n 2, 1) := by decide +kernel
theorem dX6_put_24 : decode cX6_put 24 = .ok (.i2b, 1) := by decide +kernel
theorem dX6_put_25 : decode cX6_put 25 = .ok (.goto 17, 3) := by decide +kernel
theorem dX6_put_28 : decode cX6_put 28 = .ok (.aload_n 0, 1) := by decide +kernel
theorem dX6_put_29 : decode cX6_put 29 = .ok (.getfield 15, 3) := by decide +kernel
theorem dX6_put_32 : decode cX6_put 32 = .ok (.iconst 1, 1) := by decide +kernel
theorem dX6_put_33 : decode cX6_put 33 = .ok (.if_icmp .ne 8, 3) := by decide +kernel
theorem dX6_put_36 : decode cX6_put 36 = .ok (.iload_n 2, 1) := by decide +kernel
theorem dX6_put_37 : decode cX6_put 37 = .ok (.i2s, 1) := by decide +kernel
theorem dX6_put_38 : decode cX6_put 38 = .ok (.goto 4, 3) := by decide +kernel
theorem dX6_put_41 : decode cX6_put 41 = .ok (.iload_n 2, 1) := by decide +kernel
theorem dX6_put_42 : decode cX6_put 42 = .ok (.iastore, 1) := by decide +kernel
theorem dX6_put_43 : decode cX6_put 43 = .ok (.return_, 1) := by decide +kernel
noncomputable def F6_put_b42 (v0 : Nat) (v1 : Int32) (v2 : Int32) (s0 : Nat) (s1 : Int32) (s2 : Int32) (M : Mem) : Option (Mem) :=
  (ck s1 60 (some (mset M s0 s1.toNatClampNeg s2)))
noncomputable def F6_put (v0 : Nat) (v1 : Int32) (v2 : Int32) (mc : Mem) : Option (Mem) :=
  ((F9_in v1 (mc v0 2)).bind (fun q4 => (if q4 = (0 : Int32) then some mc else (if (mc v0 1) = (0 : Int32) then (F6_put_b42 v0 v1 v2) (v0 + 1) v1 v2.toInt8.toInt32 mc else (if (mc v0 1) = (1 : Int32) then (F6_put_b42 v0 v1 v2) (v0 + 1) v1 v2.toInt16.toInt32 mc else (F6_put_b42 v0 v1 v2) (v0 + 1) v1 v2 mc)))))
set_option maxHeartbeats 4000000 in
set_option maxRecDepth 100000 in
theorem kX6_put (l : Launch) (g : GG) (v0 : Nat) (v1 : Int32) (v2 : Int32) (h0 : isO 6 v0) (mc mm : Mem) (q : Mem) (hF : F6_put v0 v1 v2 mc = some q) : KV l yX6_put cX6_put 3 1 21 g [.ref (g.1 v0), .int v1, .int v2] mc mm (q, mm) := by
  intro sz
  refine x_start (Qc := fun z => QV g z (q, mm)) (by decide +kernel) (Nat.le_of_ble_eq_true rfl) ?_ sz
  intro p e s m args below meth c ls Z hr hlk hP hl
  have hx := Z.1.1
  have hb := Z.1.2.1
  have hown := Z.1.2.2.2.1
  have hts := Z.1.2.2.2.2
  have hS : va_S (AA g s.heap.size) s.heap s.heap [] := va_S.rf
  have hl : lv_has ls 3 [(0, .ref (g.1 v0)), (1, .int v1), (2, .int v2)] := hl
  unfold F6_put at hF
  have hb42 : ∀ (s0 : Nat) (s1 : Int32) (s2 : Int32) (M : Mem), F6_put_b42 v0 v1 v2 s0 s1 s2 M = some q → isA 60 s0 → ∀ (H : Heap) (locs : List Loc) (ls : Array Slot), lv_has ls 3 [] → va_P g.2.2.1 vwCl (wL g M mm) H → va_S (AA g s.heap.size) s.heap H locs → W p l e { frames := 1, cells := 0, slots := 0, locals := 21 } s m args below meth c H locs 0 0 (MQ below (QV g s.heap.size (q, mm)) args s 0 0 (AA g s.heap.size)) (F0 m 42 ls [.int s2, .int s1, .ref (g.1 s0)]) := by
    intro s0 s1 s2 M hF h_s0 H locs ls hl hP hS
    unfold F6_put_b42 at hF
    obtain ⟨hi3, hF⟩ := ck_ok hF
    refine ra_st Z hP hS h_s0 hi3 dX6_put_42 (fun H locs hP hS => ?_)
    exact ret_VWC Z hr hlk hP hS hF dX6_put_43
  refine lv_iload_n hx hb dX6_put_0 rfl (lv_at hl 1 rfl) ?_
  refine lv_aload_n hx hb dX6_put_1 rfl (lv_at hl 0 rfl) ?_
  refine gf6_2 Z hP h0 wd_39_15 dX6_put_2 ?_
  obtain ⟨q4, hq4, hF⟩ := bd_ok hF
  refine xX9_inN Z hP hS hq4 nm_11 hl.1 (Nat.le_of_ble_eq_true rfl) ⟨Nat.le_of_ble_eq_true rfl, Nat.le_of_ble_eq_true rfl⟩ dX6_put_5 (fun H locs hP hS => ?_)
  refine lv_if_eq (tgt := 43) hx hb dX6_put_8 rfl (fun hc => ?_) (fun hc => ?_)
  · have hF := (if_pos hc).symm.trans hF
    exact ret_VWC Z hr hlk hP hS hF dX6_put_43
  · have hF := (if_neg hc).symm.trans hF
    refine lv_aload_n hx hb dX6_put_11 rfl (lv_at hl 0 rfl) ?_
    refine gf6_0 Z hP h0 wd_5_2 dX6_put_12 ?_
    refine lv_iload_n hx hb dX6_put_15 rfl (lv_at hl 1 rfl) ?_
    refine lv_aload_n hx hb dX6_put_16 rfl (lv_at hl 0 rfl) ?_
    refine gf6_1 Z hP h0 wd_5_3 dX6_put_17 ?_
    refine lv_if_ne (tgt := 28) hx hb dX6_put_20 rfl (fun hc => ?_) (fun hc => ?_)
    · have hF := (if_neg hc).symm.trans hF
      refine lv_aload_n hx hb dX6_put_28 rfl (lv_at hl 0 rfl) ?_
      refine gf6_1 Z hP h0 wd_5_3 dX6_put_29 ?_
      refine lv_iconst (v := (1 : Int32)) hx hb dX6_put_32 ic_1 ?_
      refine lv_icmp_ne (tgt := 41) hx hb dX6_put_33 rfl (fun hc => ?_) (fun hc => ?_)
      · have hF := (if_neg hc).symm.trans hF
        refine lv_iload_n hx hb dX6_put_41 rfl (lv_at hl 2 rfl) ?_
        exact hb42 _ _ _ _ hF (ia_6_0 h0) _ _ _ (lv_sub hl [] rfl) hP hS
      · have hF := (if_pos hc).symm.trans hF
        refine lv_iload_n hx hb dX6_put_36 rfl (lv_at hl 2 rfl) ?_
        refine lv_i2s (v := v2.toInt16.toInt32) hx hb dX6_put_37 rfl ?_
        refine lv_goto (tgt := 42) hx hb dX6_put_38 rfl ?_
        exact hb42 _ _ _ _ hF (ia_6_0 h0) _ _ _ (lv_sub hl [] rfl) hP hS
    · have hF := (if_pos hc).symm.trans hF
      refine lv_iload_n hx hb dX6_put_23 rfl (lv_at hl 2 rfl) ?_
      refine lv_i2b (v := v2.toInt8.toInt32) hx hb dX6_put_24 rfl ?_
      refine lv_goto (tgt := 42) hx hb dX6_put_25 rfl ?_
      exact hb42 _ _ _ _ hF (ia_6_0 h0) _ _ _ (lv_sub hl [] rfl) hP hS
theorem xX6_put {p : Program} {l : Launch} {e : Env} {R : Room} {s : State} {m : MethodId} {args : Array Value} {below : List Frame} {meth : Method} {c : Code} {H : Heap} {locs : List Loc} {Q : State → Prop} {cc : ByteArray} {nL : Nat} {own : String} {g : GG} {pc index : Nat} {ls : Array Slot} {rest : List Value} {mc mm : Mem} (Z : ZZ p s m args c cc nL own g) (hP : va_P g.2.2.1 vwCl (wL g mc mm) H) (hS : va_S (AA g s.heap.size) s.heap H locs) {v0 : Nat} {v1 : Int32} {v2 : Int32} (h0 : isO 6 v0) {q : Mem} (hq : F6_put v0 v1 v2 mc = some q) (hlk : Cond.methodLink own index yX6_put ∈ wsL_law) (hsz : ls.size = nL) (hro : (rest.map fun v => v.category).sum ≤ 8) (hR : 1 + 1 ≤ R.frames ∧ 8 + (3 + 11) + 21 ≤ R.locals) (hdg : decode cc pc = .ok (.invokevirtual index, 3)) (kk : ∀ (H : Heap) (locs : List Loc), va_P g.2.2.1 vwCl (wL g q mm) H → va_S (AA g s.heap.size) s.heap H locs → W p l e R s m args below meth c H locs 0 0 Q (F0 m (pc + 3) ls (rest))) : W p l e R s m args below meth c H locs 0 0 Q (F0 m pc ls (.int v2 :: .int v1 :: .ref (g.1 v0) :: rest)) :=
  x_VV Z hP hS (kX6_put l g v0 v1 v2 h0 mc mm q hq) (isO_w h0) (ci := 6) (by decide) rfl rfl mf_X6_put mv_X6_put hlk rfl rfl hsz hro hR hdg kk
theorem dX6_hasRun_0 : decode cX6_hasRun 0 = .ok (.iload_n 1, 1) := by decide +kernel
theorem dX6_hasRun_1 : decode cX6_hasRun 1 = .ok (.ifCond .lt 21, 3) := by decide +kernel
theorem dX6_hasRun_4 : decode cX6_hasRun 4 = .ok (.iload_n 2, 1) := by decide +kernel
theorem dX6_hasRun_5 : decode cX6_hasRun 5 = .ok (.ifCond .lt 17, 3) := by decide +kernel
theorem dX6_hasRun_8 : decode cX6_hasRun 8 = .ok (.iload_n 1, 1) := by decide +kernel
theorem dX6_hasRun_9 : decode cX6_hasRun 9 = .ok (.aload_n 0, 1) := by decide +kernel
theorem dX6_hasRun_10 : decode cX6_hasRun 10 = .ok (.getfield 19, 3) := by decide +kernel
theorem dX6_hasRun_13 : decode cX6_hasRun 13 = .ok (.iload_n 2, 1) := by decide +kernel
theorem dX6_hasRun_14 : decode cX6_hasRun 14 = .ok (.isub, 1) := by decide +kernel
theorem dX6_hasRun_15 : decode cX6_hasRun 15 = .ok (.if_icmp .gt 7, 3) := by decide +kernel
theorem dX6_hasRun_18 : decode cX6_hasRun 18 = .ok (.iconst 1, 1) := by decide +kernel
theorem dX6_hasRun_19 : decode cX6_hasRun 19 = .ok (.goto 4, 3) := by decide +kernel
theorem dX6_hasRun_22 : decode cX6_hasRun 22 = .ok (.iconst 0, 1) := by decide +kernel
theorem dX6_hasRun_23 : decode cX6_hasRun 23 = .ok (.ireturn, 1) := by decide +kernel
noncomputable def F6_hasRun_b22 (v0 : Nat) (v1 : Int32) (v2 : Int32) (mc : Mem) : Option (Int32) :=
  some (0 : Int32)
noncomputable def F6_hasRun (v0 : Nat) (v1 : Int32) (v2 : Int32) (mc : Mem) : Option (Int32) :=
  (if v1 < (0 : Int32) then (F6_hasRun_b22 v0 v1 v2 mc) else (if v2 < (0 : Int32) then (F6_hasRun_b22 v0 v1 v2 mc) else (if ((mc v0 2) - v2) < v1 then (F6_hasRun_b22 v0 v1 v2 mc) else some (1 : Int32))))
set_option maxHeartbeats 4000000 in
set_option maxRecDepth 100000 in
theorem kX6_hasRun (l : Launch) (g : GG) (v0 : Nat) (v1 : Int32) (v2 : Int32) (h0 : isO 6 v0) (mc mm : Mem) (q : Int32) (hF : F6_hasRun v0 v1 v2 mc = some q) : KI l yX6_hasRun cX6_hasRun 3 .boolean 0 0 g [.ref (g.1 v0), .int v1, .int v2] mc mm q (mc, mm) := by
  intro sz
  refine x_start (Qc := fun z => QI g z q (mc, mm)) (by decide +kernel) (Nat.le_of_ble_eq_true rfl) ?_ sz
  intro p e s m args below meth c ls Z hr hlk hP hl
  have hx := Z.1.1
  have hb := Z.1.2.1
  have hown := Z.1.2.2.2.1
  have hts := Z.1.2.2.2.2
  have hS : va_S (AA g s.heap.size) s.heap s.heap [] := va_S.rf
  have hl : lv_has ls 3 [(0, .ref (g.1 v0)), (1, .int v1), (2, .int v2)] := hl
  unfold F6_hasRun at hF
  have hb22 : F6_hasRun_b22 v0 v1 v2 mc = some q → ∀ (H : Heap) (locs : List Loc) (ls : Array Slot), lv_has ls 3 [] → va_P g.2.2.1 vwCl (wL g mc mm) H → va_S (AA g s.heap.size) s.heap H locs → W p l e { frames := 0, cells := 0, slots := 0, locals := 0 } s m args below meth c H locs 0 0 (MQ below (QI g s.heap.size q (mc, mm)) args s 0 0 (AA g s.heap.size)) (F0 m 22 ls []) := by
    intro hF H locs ls hl hP hS
    unfold F6_hasRun_b22 at hF
    refine lv_iconst (v := (0 : Int32)) hx hb dX6_hasRun_22 ic_0 ?_
    exact ret_Z Z hr hlk hP hS (Or.inl rfl) hF dX6_hasRun_23
  refine lv_iload_n hx hb dX6_hasRun_0 rfl (lv_at hl 1 rfl) ?_
  refine lv_if_lt (tgt := 22) hx hb dX6_hasRun_1 rfl (fun hc => ?_) (fun hc => ?_)
  · have hF := (if_pos hc).symm.trans hF
    exact hb22  hF _ _ _ (lv_sub hl [] rfl) hP hS
  · have hF := (if_neg hc).symm.trans hF
    refine lv_iload_n hx hb dX6_hasRun_4 rfl (lv_at hl 2 rfl) ?_
    refine lv_if_lt (tgt := 22) hx hb dX6_hasRun_5 rfl (fun hc => ?_) (fun hc => ?_)
    · have hF := (if_pos hc).symm.trans hF
      exact hb22  hF _ _ _ (lv_sub hl [] rfl) hP hS
    · have hF := (if_neg hc).symm.trans hF
      refine lv_iload_n hx hb dX6_hasRun_8 rfl (lv_at hl 1 rfl) ?_
      refine lv_aload_n hx hb dX6_hasRun_9 rfl (lv_at hl 0 rfl) ?_
      refine gf6_2 Z hP h0 wd_39_15 dX6_hasRun_10 ?_
      refine lv_iload_n hx hb dX6_hasRun_13 rfl (lv_at hl 2 rfl) ?_
      refine lv_isub hx hb dX6_hasRun_14 ?_
      refine lv_icmp_gt (tgt := 22) hx hb dX6_hasRun_15 rfl (fun hc => ?_) (fun hc => ?_)
      · have hF := (if_pos hc).symm.trans hF
        exact hb22  hF _ _ _ (lv_sub hl [] rfl) hP hS
      · have hF := (if_neg hc).symm.trans hF
        refine lv_iconst (v := (1 : Int32)) hx hb dX6_hasRun_18 ic_1 ?_
        refine lv_goto (tgt := 23) hx hb dX6_hasRun_19 rfl ?_
        exact ret_Z Z hr hlk hP hS (Or.inr rfl) hF dX6_hasRun_23
theorem xX6_hasRun {p : Program} {l : Launch} {e : Env} {R : Room} {s : State} {m : MethodId} {args : Array Value} {below : List Frame} {meth : Method} {c : Code} {H : Heap} {locs : List Loc} {Q : State → Prop} {cc : ByteArray} {nL : Nat} {own : String} {g : GG} {pc index : Nat} {ls : Array Slot} {rest : List Value} {mc mm : Mem} (Z : ZZ p s m args c cc nL own g) (hP : va_P g.2.2.1 vwCl (wL g mc mm) H) (hS : va_S (AA g s.heap.size) s.heap H locs) {v0 : Nat} {v1 : Int32} {v2 : Int32} (h0 : isO 6 v0) {q : Int32} (hq : F6_hasRun v0 v1 v2 mc = some q) (hlk : Cond.methodLink own index yX6_hasRun ∈ wsL_law) (hsz : ls.size = nL) (hro : (rest.map fun v => v.category).sum ≤ 8) (hR : 0 + 1 ≤ R.frames ∧ 8 + (3 + 11) + 0 ≤ R.locals) (hdg : decode cc pc = .ok (.invokevirtual index, 3)) (kk : ∀ (H : Heap) (locs : List Loc), va_P g.2.2.1 vwCl (wL g mc mm) H → va_S (AA g s.heap.size) s.heap H locs → W p l e R s m args below meth c H locs 0 0 Q (F0 m (pc + 3) ls (.int q :: rest))) : W p l e R s m args below meth c H locs 0 0 Q (F0 m pc ls (.int v2 :: .int v1 :: .ref (g.1 v0) :: rest)) :=
  x_VI Z hP hS (kX6_hasRun l g v0 v1 v2 h0 mc mm q hq) (isO_w h0) (ci := 6) (by decide) rfl rfl mf_X6_hasRun mv_X6_hasRun hlk rfl rfl hsz hro hR hdg kk
theorem dX7_add_0 : decode cX7_add 0 = .ok (.aload_n 0, 1) := by decide +kernel
theorem dX7_add_1 : decode cX7_add 1 = .ok (.getfield 25, 3) := by decide +kernel
theorem dX7_add_4 : decode cX7_add 4 = .ok (.aload_n 0, 1) := by decide +kernel
theorem dX7_add_5 : decode cX7_add 5 = .ok (.getfield 21, 3) := by decide +kernel
theorem dX7_add_8 : decode cX7_add 8 = .ok (.arraylength, 1) := by decide +kernel
theorem dX7_add_9 : decode cX7_add 9 = .ok (.if_icmp .lt 5, 3) := by decide +kernel
theorem dX7_add_12 : decode cX7_add 12 = .ok (.iconst 0, 1) := by decide +kernel
theorem dX7_add_13 : decode cX7_add 13 = .ok (.ireturn, 1) := by decide +kernel
theorem dX7_add_14 : decode cX7_add 14 = .ok (.aload_n 0, 1) := by decide +kernel
theorem dX7_add_15 : decode cX7_add 15 = .ok (.getfield 21, 3) := by decide +kernel
theorem dX7_add_18 : decode cX7_add 18 = .ok (.aload_n 0, 1) := by decide +kernel
theorem dX7_add_19 : decode cX7_add 19 = .ok (.getfield 25, 3) := by decide +kernel
theorem dX7_add_22 : decode cX7_add 22 = .ok (.iload_n 1, 1) := by decide +kernel
theorem dX7_add_23 : decode cX7_add 23 = .ok (.iastore, 1) := by decide +kernel
theorem dX7_add_24 : decode cX7_add 24 = .ok (.aload_n 0, 1) := by decide +kernel
theorem dX7_add_25 : decode cX7_add 25 = .ok (.dup, 1) := by decide +kernel
theorem dX7_add_26 : decode cX7_add 26 = .ok (.getfield 25, 3) := by decide +kernel
theorem dX7_add_29 : decode cX7_add 29 = .ok (.iconst 1, 1) := by decide +kernel
theorem dX7_add_30 : decode cX7_add 30 = .ok (.iadd, 1) := by decide +kernel
theorem dX7_add_31 : decode cX7_add 31 = .ok (.putfield 25, 3) := by decide +kernel
theorem dX7_add_34 : decode cX7_add 34 = .ok (.iconst 1, 1) := by decide +kernel
theorem dX7_add_35 : decode cX7_add 35 = .ok (.ireturn, 1) := by decide +kernel
noncomputable def F7_add (v0 : Nat) (v1 : Int32) (mc : Mem) : Option (Int32 × Mem) :=
  (if (mc v0 1) < (Int32.ofNat (ln (v0 + 1))) then (ck (mc v0 1) (ln (v0 + 1)) (lt (mset mc (v0 + 1) (mc v0 1).toNatClampNeg v1) (fun M4 => (some ((1 : Int32), (mset M4 v0 1 ((M4 v0 1) + (1 : Int32)))))))) else some ((0 : Int32), mc))
set_option maxHeartbeats 4000000 in
set_option maxRecDepth 100000 in
theorem kX7_add (l : Launch) (g : GG) (v0 : Nat) (v1 : Int32) (h0 : isO 7 v0) (mc mm : Mem) (q : Int32 × Mem) (hF : F7_add v0 v1 mc = some q) : KI l yX7_add cX7_add 2 .boolean 0 0 g [.ref (g.1 v0), .int v1] mc mm q.1 (q.2, mm) := by
  intro sz
  refine x_start (Qc := fun z => QI g z q.1 (q.2, mm)) (by decide +kernel) (Nat.le_of_ble_eq_true rfl) ?_ sz
  intro p e s m args below meth c ls Z hr hlk hP hl
  have hx := Z.1.1
  have hb := Z.1.2.1
  have hown := Z.1.2.2.2.1
  have hts := Z.1.2.2.2.2
  have hS : va_S (AA g s.heap.size) s.heap s.heap [] := va_S.rf
  have hl : lv_has ls 2 [(0, .ref (g.1 v0)), (1, .int v1)] := hl
  unfold F7_add at hF
  refine lv_aload_n hx hb dX7_add_0 rfl (lv_at hl 0 rfl) ?_
  refine gf7_1 Z hP h0 wd_7_14 dX7_add_1 ?_
  refine lv_aload_n hx hb dX7_add_4 rfl (lv_at hl 0 rfl) ?_
  refine gf7_0 Z hP h0 wd_3_18 dX7_add_5 ?_
  refine ra_len Z hP (ia_7_0 h0) dX7_add_8 ?_
  refine lv_icmp_lt (tgt := 14) hx hb dX7_add_9 rfl (fun hc => ?_) (fun hc => ?_)
  · have hF := (if_pos hc).symm.trans hF
    refine lv_aload_n hx hb dX7_add_14 rfl (lv_at hl 0 rfl) ?_
    refine gf7_0 Z hP h0 wd_3_18 dX7_add_15 ?_
    refine lv_aload_n hx hb dX7_add_18 rfl (lv_at hl 0 rfl) ?_
    refine gf7_1 Z hP h0 wd_7_14 dX7_add_19 ?_
    refine lv_iload_n hx hb dX7_add_22 rfl (lv_at hl 1 rfl) ?_
    obtain ⟨hi3, hF⟩ := ck_ok hF
    refine ra_st Z hP hS (ia_7_0 h0) hi3 dX7_add_23 (fun H locs hP hS => ?_)
    refine lv_aload_n hx hb dX7_add_24 rfl (lv_at hl 0 rfl) ?_
    refine lv_dup hx hb dX7_add_25 rfl ?_
    obtain ⟨M4, eM4, hF⟩ := lt_ok hF
    have hP : va_P g.2.2.1 vwCl (wL g M4 mm) H := by rw [eM4]; exact hP
    refine gf7_1 Z hP h0 wd_7_14 dX7_add_26 ?_
    refine lv_iconst (v := (1 : Int32)) hx hb dX7_add_29 ic_1 ?_
    refine lv_iadd hx hb dX7_add_30 ?_
    refine pf7_1 Z hP hS h0 wd_7_14 dX7_add_31 (fun H locs hP hS => ?_)
    refine lv_iconst (v := (1 : Int32)) hx hb dX7_add_34 ic_1 ?_
    exact ret_ZWC Z hr hlk hP hS (Or.inr rfl) hF dX7_add_35
  · have hF := (if_neg hc).symm.trans hF
    refine lv_iconst (v := (0 : Int32)) hx hb dX7_add_12 ic_0 ?_
    exact ret_ZWC Z hr hlk hP hS (Or.inl rfl) hF dX7_add_13
theorem xX7_add {p : Program} {l : Launch} {e : Env} {R : Room} {s : State} {m : MethodId} {args : Array Value} {below : List Frame} {meth : Method} {c : Code} {H : Heap} {locs : List Loc} {Q : State → Prop} {cc : ByteArray} {nL : Nat} {own : String} {g : GG} {pc index : Nat} {ls : Array Slot} {rest : List Value} {mc mm : Mem} (Z : ZZ p s m args c cc nL own g) (hP : va_P g.2.2.1 vwCl (wL g mc mm) H) (hS : va_S (AA g s.heap.size) s.heap H locs) {v0 : Nat} {v1 : Int32} (h0 : isO 7 v0) {q : Int32 × Mem} (hq : F7_add v0 v1 mc = some q) (hlk : Cond.methodLink own index yX7_add ∈ wsL_law) (hsz : ls.size = nL) (hro : (rest.map fun v => v.category).sum ≤ 8) (hR : 0 + 1 ≤ R.frames ∧ 8 + (2 + 11) + 0 ≤ R.locals) (hdg : decode cc pc = .ok (.invokevirtual index, 3)) (kk : ∀ (H : Heap) (locs : List Loc), va_P g.2.2.1 vwCl (wL g q.2 mm) H → va_S (AA g s.heap.size) s.heap H locs → W p l e R s m args below meth c H locs 0 0 Q (F0 m (pc + 3) ls (.int q.1 :: rest))) : W p l e R s m args below meth c H locs 0 0 Q (F0 m pc ls (.int v1 :: .ref (g.1 v0) :: rest)) :=
  x_VI Z hP hS (kX7_add l g v0 v1 h0 mc mm q hq) (isO_w h0) (ci := 7) (by decide) rfl rfl mf_X7_add mv_X7_add hlk rfl rfl hsz hro hR hdg kk
theorem dX8_takeAll_0 : decode cX8_takeAll 0 = .ok (.iconst 0, 1) := by decide +kernel
theorem dX8_takeAll_1 : decode cX8_takeAll 1 = .ok (.istore_n 2, 1) := by decide +kernel
theorem dX8_takeAll_2 : decode cX8_takeAll 2 = .ok (.iconst 0, 1) := by decide +kernel
theorem dX8_takeAll_3 : decode cX8_takeAll 3 = .ok (.istore_n 3, 1) := by decide +kernel
theorem dX8_takeAll_4 : decode cX8_takeAll 4 = .ok (.iload_n 3, 1) := by decide +kernel
theorem dX8_takeAll_5 : decode cX8_takeAll 5 = .ok (.bipush 8, 2) := by decide +kernel
theorem dX8_takeAll_7 : decode cX8_takeAll 7 = .ok (.if_icmp .ge 99, 3) := by decide +kernel
theorem dX8_takeAll_10 : decode cX8_takeAll 10 = .ok (.aload_n 0, 1) := by decide +kernel
theorem dX8_takeAll_11 : decode cX8_takeAll 11 = .ok (.getfield 9, 3) := by decide +kernel
theorem dX8_takeAll_14 : decode cX8_takeAll 14 = .ok (.iload_n 3, 1) := by decide +kernel
theorem dX8_takeAll_15 : decode cX8_takeAll 15 = .ok (.aload_n 1, 1) := by decide +kernel
theorem dX8_takeAll_16 : decode cX8_takeAll 16 = .ok (.iload_n 2, 1) := by decide +kernel
theorem dX8_takeAll_17 : decode cX8_takeAll 17 = .ok (.ldc 43, 2) := by decide +kernel
theorem dX8_takeAll_19 : decode cX8_takeAll 19 = .ok (.invokevirtual 45, 3) := by decide +kernel
theorem dX8_takeAll_22 : decode cX8_takeAll 22 = .ok (.iastore, 1) := by decide +kernel
theorem dX8_takeAll_23 : decode cX8_takeAll 23 = .ok (.aload_n 0, 1) := by decide +kernel
theorem dX8_takeAll_24 : decode cX8_takeAll 24 = .ok (.getfield 9, 3) := by decide +kernel
theorem dX8_takeAll_27 : decode cX8_takeAll 27 = .ok (.iload_n 3, 1) := by decide +kernel
theorem dX8_takeAll_28 : decode cX8_takeAll 28 = .ok (.iaload, 1) := by decide +kernel
theorem dX8_takeAll_29 : decode cX8_takeAll 29 = .ok (.iconst (-1), 1) := by decide +kernel
theorem dX8_takeAll_30 : decode cX8_takeAll 30 = .ok (.if_icmp .ne 5, 3) := by decide +kernel
theorem dX8_takeAll_33 : decode cX8_takeAll 33 = .ok (.iload_n 2, 1) := by decide +kernel
theorem dX8_takeAll_34 : decode cX8_takeAll 34 = .ok (.ireturn, 1) := by decide +kernel
theorem dX8_takeAll_35 : decode cX8_takeAll 35 = .ok (.aload_n 0, 1) := by decide +kernel
theorem dX8_takeAll_36 : decode cX8_takeAll 36 = .ok (.getfield 15, 3) := by decide +kernel
theorem dX8_takeAll_39 : decode cX8_takeAll 39 = .ok (.iload_n 3, 1) := by decide +kernel
theorem dX8_takeAll_40 : decode cX8_takeAll 40 = .ok (.aload_n 1, 1) := by decide +kernel
theorem dX8_takeAll_41 : decode cX8_takeAll 41 = .ok (.iload_n 2, 1) := by decide +kernel
theorem dX8_takeAll_42 : decode cX8_takeAll 42 = .ok (.iconst 1, 1) := by decide +kernel
theorem dX8_takeAll_43 : decode cX8_takeAll 43 = .ok (.iadd, 1) := by decide +kernel
theorem dX8_takeAll_44 : decode cX8_takeAll 44 = .ok (.ldc 49, 2) := by decide +kernel
theorem dX8_takeAll_46 : decode cX8_takeAll 46 = .ok (.invokevirtual 45, 3) := by decide +kernel
theorem dX8_takeAll_49 : decode cX8_takeAll 49 = .ok (.iastore, 1) := by decide +kernel
theorem dX8_takeAll_50 : decode cX8_takeAll 50 = .ok (.aload_n 0, 1) := by decide +kernel
theorem dX8_takeAll_51 : decode cX8_takeAll 51 = .ok (.getfield 15, 3) := by decide +kernel
theorem dX8_takeAll_54 : decode cX8_takeAll 54 = .ok (.iload_n 3, 1) := by decide +kernel
theorem dX8_takeAll_55 : decode cX8_takeAll 55 = .ok (.iaload, 1) := by decide +kernel
theorem dX8_takeAll_56 : decode cX8_takeAll 56 = .ok (.iconst (-1), 1) := by decide +kernel
theorem dX8_takeAll_57 : decode cX8_takeAll 57 = .ok (.if_icmp .ne 7, 3) := by decide +kernel
theorem dX8_takeAll_60 : decode cX8_takeAll 60 = .ok (.iload_n 2, 1) := by decide +kernel
theorem dX8_takeAll_61 : decode cX8_takeAll 61 = .ok (.iconst 1, 1) := by decide +kernel
theorem dX8_takeAll_62 : decode cX8_takeAll 62 = .ok (.iadd, 1) := by decide +kernel
theorem dX8_takeAll_63 : decode cX8_takeAll 63 = .ok (.ireturn, 1) := by decide +kernel
theorem dX8_takeAll_64 : decode cX8_takeAll 64 = .ok (.aload_n 0, 1) := by decide +kernel
theorem dX8_takeAll_65 : decode cX8_takeAll 65 = .ok (.iload_n 3, 1) := by decide +kernel
theorem dX8_takeAll_66 : decode cX8_takeAll 66 = .ok (.iconst 1, 1) := by decide +kernel
theorem dX8_takeAll_67 : decode cX8_takeAll 67 = .ok (.iadd, 1) := by decide +kernel
theorem dX8_takeAll_68 : decode cX8_takeAll 68 = .ok (.putfield 28, 3) := by decide +kernel
theorem dX8_takeAll_71 : decode cX8_takeAll 71 = .ok (.iinc 2 2, 3) := by decide +kernel
theorem dX8_takeAll_74 : decode cX8_takeAll 74 = .ok (.iload_n 2, 1) := by decide +kernel
theorem dX8_takeAll_75 : decode cX8_takeAll 75 = .ok (.aload_n 1, 1) := by decide +kernel
theorem dX8_takeAll_76 : decode cX8_takeAll 76 = .ok (.getfield 31, 3) := by decide +kernel
theorem dX8_takeAll_79 : decode cX8_takeAll 79 = .ok (.if_icmp .ne 5, 3) := by decide +kernel
theorem dX8_takeAll_82 : decode cX8_takeAll 82 = .ok (.iconst (-1), 1) := by decide +kernel
theorem dX8_takeAll_83 : decode cX8_takeAll 83 = .ok (.ireturn, 1) := by decide +kernel
theorem dX8_takeAll_84 : decode cX8_takeAll 84 = .ok (.aload_n 1, 1) := by decide +kernel
theorem dX8_takeAll_85 : decode cX8_takeAll 85 = .ok (.iload_n 2, 1) := by decide +kernel
theorem dX8_takeAll_86 : decode cX8_takeAll 86 = .ok (.ldc 51, 2) := by decide +kernel
theorem dX8_takeAll_88 : decode cX8_takeAll 88 = .ok (.invokevirtual 45, 3) := by decide +kernel
theorem dX8_takeAll_91 : decode cX8_takeAll 91 = .ok (.iconst (-1), 1) := by decide +kernel
theorem dX8_takeAll_92 : decode cX8_takeAll 92 = .ok (.if_icmp .ne 5, 3) := by decide +kernel
theorem dX8_takeAll_95 : decode cX8_takeAll 95 = .ok (.iload_n 2, 1) := by decide +kernel
theorem dX8_takeAll_96 : decode cX8_takeAll 96 = .ok (.ireturn, 1) := by decide +kernel
theorem dX8_takeAll_97 : decode cX8_takeAll 97 = .ok (.iinc 2 1, 3) := by decide +kernel
theorem dX8_takeAll_100 : decode cX8_takeAll 100 = .ok (.iinc 3 1, 3) := by decide +kernel
theorem dX8_takeAll_103 : decode cX8_takeAll 103 = .ok (.goto (-99), 3) := by decide +kernel
theorem dX8_takeAll_106 : decode cX8_takeAll 106 = .ok (.iload_n 2, 1) := by decide +kernel
theorem dX8_takeAll_107 : decode cX8_takeAll 107 = .ok (.ireturn, 1) := by decide +kernel
noncomputable def F8_takeAll_p4 (kh : Int32 → Int32 → Mem → Option (Int32 × Mem)) (v0 : Nat) (v1 : Nat) (a2 : Int32) (a3 : Int32) (M : Mem) : Option (Int32 × Mem) :=
  (if (8 : Int32) ≤ a3 then some (a2, M) else ((F7_sign v1 a2 5 M).bind (fun q11 => (ck a3 8 (lt (mset M (v0 + 1) a3.toNatClampNeg q11) (fun M13 => (ck a3 8 (if (M13 (v0 + 1) a3.toNatClampNeg) = (-1 : Int32) then some (a2, M13) else ((F7_sign v1 (a2 + (1 : Int32)) 6 M13).bind (fun q15 => (ck a3 8 (lt (mset M13 (v0 + 2) a3.toNatClampNeg q15) (fun M17 => (ck a3 8 (if (M17 (v0 + 2) a3.toNatClampNeg) = (-1 : Int32) then some ((a2 + (1 : Int32)), M17) else (lt (mset M17 v0 4 (a3 + (1 : Int32))) (fun M19 => (if (a2 + (2 : Int32)) = (M19 v1 1) then some ((-1 : Int32), M19) else ((F7_sign v1 (a2 + (2 : Int32)) 0 M19).bind (fun q20 => (if q20 = (-1 : Int32) then some ((a2 + (2 : Int32)), M19) else kh ((a2 + (2 : Int32)) + (1 : Int32)) (a3 + (1 : Int32)) M19)))))))))))))))))))))
noncomputable def F8_takeAll_h4 (v0 : Nat) (v1 : Nat) : Nat → Int32 → Int32 → Mem → Option (Int32 × Mem)
  | 0, _, _, _ => none
  | n + 1, a2, a3, M => F8_takeAll_p4 (F8_takeAll_h4 v0 v1 n) v0 v1 a2 a3 M
noncomputable def F8_takeAll (v0 : Nat) (v1 : Nat) (mc : Mem) : Option (Int32 × Mem) :=
  (F8_takeAll_h4 v0 v1 FU) (0 : Int32) (0 : Int32) mc
set_option maxHeartbeats 4000000 in
set_option maxRecDepth 100000 in
theorem kX8_takeAll (l : Launch) (g : GG) (v0 : Nat) (v1 : Nat) (h0 : isO 8 v0) (h1 : isO 7 v1) (mc mm : Mem) (q : Int32 × Mem) (hF : F8_takeAll v0 v1 mc = some q) : KI l yX8_takeAll cX8_takeAll 4 .int 5 128 g [.ref (g.1 v0), .ref (g.1 v1)] mc mm q.1 (q.2, mm) := by
  intro sz
  refine x_start (Qc := fun z => QI g z q.1 (q.2, mm)) (by decide +kernel) (Nat.le_of_ble_eq_true rfl) ?_ sz
  intro p e s m args below meth c ls Z hr hlk hP hl
  have hx := Z.1.1
  have hb := Z.1.2.1
  have hown := Z.1.2.2.2.1
  have hts := Z.1.2.2.2.2
  have hS : va_S (AA g s.heap.size) s.heap s.heap [] := va_S.rf
  have hl : lv_has ls 4 [(0, .ref (g.1 v0)), (1, .ref (g.1 v1))] := hl
  unfold F8_takeAll at hF
  have hL4 : ∀ n : Nat, ∀ (a2 : Int32) (a3 : Int32) (M : Mem), F8_takeAll_h4 v0 v1 n a2 a3 M = some q → ∀ (H : Heap) (locs : List Loc) (ls : Array Slot), lv_has ls 4 [(0, .ref (g.1 v0)), (1, .ref (g.1 v1)), (2, .int a2), (3, .int a3)] → va_P g.2.2.1 vwCl (wL g M mm) H → va_S (AA g s.heap.size) s.heap H locs → W p l e { frames := 5, cells := 0, slots := 0, locals := 128 } s m args below meth c H locs 0 0 (MQ below (QI g s.heap.size q.1 (q.2, mm)) args s 0 0 (AA g s.heap.size)) (F0 m 4 ls []) := by
    intro n
    induction n with
    | zero => intro a2 a3 M hF H locs ls hl hP hS; exact absurd hF (fun z => nomatch (show (none : Option _) = some q from z))
    | succ n ih =>
      generalize hkh : F8_takeAll_h4 v0 v1 n = kh at ih
      intro a2 a3 M hF H locs ls hl hP hS
      have hF : F8_takeAll_p4 (F8_takeAll_h4 v0 v1 n) v0 v1 a2 a3 M = some q := hF
      rw [hkh] at hF
      unfold F8_takeAll_p4 at hF
      refine lv_iload_n hx hb dX8_takeAll_4 rfl (lv_at hl 3 rfl) ?_
      refine lv_bipush (v := (8 : Int32)) hx hb dX8_takeAll_5 bp_8 ?_
      refine lv_icmp_ge (tgt := 106) hx hb dX8_takeAll_7 rfl (fun hc => ?_) (fun hc => ?_)
      · have hF := (if_pos hc).symm.trans hF
        refine lv_iload_n hx hb dX8_takeAll_106 rfl (lv_at hl 2 rfl) ?_
        exact ret_IWC Z hr hlk hP hS hF dX8_takeAll_107
      · have hF := (if_neg hc).symm.trans hF
        refine lv_aload_n hx hb dX8_takeAll_10 rfl (lv_at hl 0 rfl) ?_
        refine gf8_0 Z hP h0 wd_3_22 dX8_takeAll_11 ?_
        refine lv_iload_n hx hb dX8_takeAll_14 rfl (lv_at hl 3 rfl) ?_
        refine lv_aload_n hx hb dX8_takeAll_15 rfl (lv_at hl 1 rfl) ?_
        refine lv_iload_n hx hb dX8_takeAll_16 rfl (lv_at hl 2 rfl) ?_
        refine rs_ldc (i := 5) Z ks_5 dX8_takeAll_17 ?_
        obtain ⟨q11, hq11, hF⟩ := bd_ok hF
        refine xX7_sign Z hP hS h1 (by decide) hq11 wd_8_4 hl.1 (Nat.le_of_ble_eq_true rfl) ⟨Nat.le_of_ble_eq_true rfl, Nat.le_of_ble_eq_true rfl⟩ dX8_takeAll_19 (fun H locs hP hS => ?_)
        obtain ⟨hi12, hF⟩ := ck_ok hF
        refine ra_st Z hP hS (ia_8_0 h0) hi12 dX8_takeAll_22 (fun H locs hP hS => ?_)
        refine lv_aload_n hx hb dX8_takeAll_23 rfl (lv_at hl 0 rfl) ?_
        refine gf8_0 Z hP h0 wd_3_22 dX8_takeAll_24 ?_
        refine lv_iload_n hx hb dX8_takeAll_27 rfl (lv_at hl 3 rfl) ?_
        obtain ⟨M13, eM13, hF⟩ := lt_ok hF
        have hP : va_P g.2.2.1 vwCl (wL g M13 mm) H := by rw [eM13]; exact hP
        obtain ⟨hi14, hF⟩ := ck_ok hF
        refine ra_ld Z hP (ia_8_0 h0) hi14 dX8_takeAll_28 ?_
        refine lv_iconst (v := (-1 : Int32)) hx hb dX8_takeAll_29 ic_m1 ?_
        refine lv_icmp_ne (tgt := 35) hx hb dX8_takeAll_30 rfl (fun hc => ?_) (fun hc => ?_)
        · have hF := (if_neg hc).symm.trans hF
          refine lv_aload_n hx hb dX8_takeAll_35 rfl (lv_at hl 0 rfl) ?_
          refine gf8_1 Z hP h0 wd_3_23 dX8_takeAll_36 ?_
          refine lv_iload_n hx hb dX8_takeAll_39 rfl (lv_at hl 3 rfl) ?_
          refine lv_aload_n hx hb dX8_takeAll_40 rfl (lv_at hl 1 rfl) ?_
          refine lv_iload_n hx hb dX8_takeAll_41 rfl (lv_at hl 2 rfl) ?_
          refine lv_iconst (v := (1 : Int32)) hx hb dX8_takeAll_42 ic_1 ?_
          refine lv_iadd hx hb dX8_takeAll_43 ?_
          refine rs_ldc (i := 6) Z ks_6 dX8_takeAll_44 ?_
          obtain ⟨q15, hq15, hF⟩ := bd_ok hF
          refine xX7_sign Z hP hS h1 (by decide) hq15 wd_8_4 hl.1 (Nat.le_of_ble_eq_true rfl) ⟨Nat.le_of_ble_eq_true rfl, Nat.le_of_ble_eq_true rfl⟩ dX8_takeAll_46 (fun H locs hP hS => ?_)
          obtain ⟨hi16, hF⟩ := ck_ok hF
          refine ra_st Z hP hS (ia_8_1 h0) hi16 dX8_takeAll_49 (fun H locs hP hS => ?_)
          refine lv_aload_n hx hb dX8_takeAll_50 rfl (lv_at hl 0 rfl) ?_
          refine gf8_1 Z hP h0 wd_3_23 dX8_takeAll_51 ?_
          refine lv_iload_n hx hb dX8_takeAll_54 rfl (lv_at hl 3 rfl) ?_
          obtain ⟨M17, eM17, hF⟩ := lt_ok hF
          have hP : va_P g.2.2.1 vwCl (wL g M17 mm) H := by rw [eM17]; exact hP
          obtain ⟨hi18, hF⟩ := ck_ok hF
          refine ra_ld Z hP (ia_8_1 h0) hi18 dX8_takeAll_55 ?_
          refine lv_iconst (v := (-1 : Int32)) hx hb dX8_takeAll_56 ic_m1 ?_
          refine lv_icmp_ne (tgt := 64) hx hb dX8_takeAll_57 rfl (fun hc => ?_) (fun hc => ?_)
          · have hF := (if_neg hc).symm.trans hF
            refine lv_aload_n hx hb dX8_takeAll_64 rfl (lv_at hl 0 rfl) ?_
            refine lv_iload_n hx hb dX8_takeAll_65 rfl (lv_at hl 3 rfl) ?_
            refine lv_iconst (v := (1 : Int32)) hx hb dX8_takeAll_66 ic_1 ?_
            refine lv_iadd hx hb dX8_takeAll_67 ?_
            refine pf8_4 Z hP hS h0 wd_7_23 dX8_takeAll_68 (fun H locs hP hS => ?_)
            refine lv_iinc (lv' := [(2, .int (a2 + (2 : Int32))), (0, .ref (g.1 v0)), (1, .ref (g.1 v1)), (3, .int a3)]) (v := (a2 + (2 : Int32))) hx hb dX8_takeAll_71 hl (k := 2) rfl (io_2 _) (Nat.le_of_ble_eq_true rfl) rfl (fun ls hl => ?_)
            refine lv_iload_n hx hb dX8_takeAll_74 rfl (lv_at hl 0 rfl) ?_
            refine lv_aload_n hx hb dX8_takeAll_75 rfl (lv_at hl 2 rfl) ?_
            obtain ⟨M19, eM19, hF⟩ := lt_ok hF
            have hP : va_P g.2.2.1 vwCl (wL g M19 mm) H := by rw [eM19]; exact hP
            refine gf7_1N Z hP h1 nf_46 dX8_takeAll_76 ?_
            refine lv_icmp_ne (tgt := 84) hx hb dX8_takeAll_79 rfl (fun hc => ?_) (fun hc => ?_)
            · have hF := (if_neg hc).symm.trans hF
              refine lv_aload_n hx hb dX8_takeAll_84 rfl (lv_at hl 2 rfl) ?_
              refine lv_iload_n hx hb dX8_takeAll_85 rfl (lv_at hl 0 rfl) ?_
              refine rs_ldc (i := 0) Z ks_7 dX8_takeAll_86 ?_
              obtain ⟨q20, hq20, hF⟩ := bd_ok hF
              refine xX7_sign Z hP hS h1 (by decide) hq20 wd_8_4 hl.1 (Nat.le_of_ble_eq_true rfl) ⟨Nat.le_of_ble_eq_true rfl, Nat.le_of_ble_eq_true rfl⟩ dX8_takeAll_88 (fun H locs hP hS => ?_)
              refine lv_iconst (v := (-1 : Int32)) hx hb dX8_takeAll_91 ic_m1 ?_
              refine lv_icmp_ne (tgt := 97) hx hb dX8_takeAll_92 rfl (fun hc => ?_) (fun hc => ?_)
              · have hF := (if_neg hc).symm.trans hF
                refine lv_iinc (lv' := [(2, .int ((a2 + (2 : Int32)) + (1 : Int32))), (0, .ref (g.1 v0)), (1, .ref (g.1 v1)), (3, .int a3)]) (v := ((a2 + (2 : Int32)) + (1 : Int32))) hx hb dX8_takeAll_97 hl (k := 0) rfl (io_1 _) (Nat.le_of_ble_eq_true rfl) rfl (fun ls hl => ?_)
                refine lv_iinc (lv' := [(3, .int (a3 + (1 : Int32))), (2, .int ((a2 + (2 : Int32)) + (1 : Int32))), (0, .ref (g.1 v0)), (1, .ref (g.1 v1))]) (v := (a3 + (1 : Int32))) hx hb dX8_takeAll_100 hl (k := 3) rfl (io_1 _) (Nat.le_of_ble_eq_true rfl) rfl (fun ls hl => ?_)
                refine lv_goto (tgt := 4) hx hb dX8_takeAll_103 rfl ?_
                exact ih _ _ _ hF _ _ _ (lv_sub hl [2, 3, 1, 0] rfl) hP hS
              · have hF := (if_pos hc).symm.trans hF
                refine lv_iload_n hx hb dX8_takeAll_95 rfl (lv_at hl 0 rfl) ?_
                exact ret_IWC Z hr hlk hP hS hF dX8_takeAll_96
            · have hF := (if_pos hc).symm.trans hF
              refine lv_iconst (v := (-1 : Int32)) hx hb dX8_takeAll_82 ic_m1 ?_
              exact ret_IWC Z hr hlk hP hS hF dX8_takeAll_83
          · have hF := (if_pos hc).symm.trans hF
            refine lv_iload_n hx hb dX8_takeAll_60 rfl (lv_at hl 2 rfl) ?_
            refine lv_iconst (v := (1 : Int32)) hx hb dX8_takeAll_61 ic_1 ?_
            refine lv_iadd hx hb dX8_takeAll_62 ?_
            exact ret_IWC Z hr hlk hP hS hF dX8_takeAll_63
        · have hF := (if_pos hc).symm.trans hF
          refine lv_iload_n hx hb dX8_takeAll_33 rfl (lv_at hl 2 rfl) ?_
          exact ret_IWC Z hr hlk hP hS hF dX8_takeAll_34
  refine lv_iconst (v := (0 : Int32)) hx hb dX8_takeAll_0 ic_0 ?_
  refine lv_istore_n (lv' := [(2, .int (0 : Int32)), (0, .ref (g.1 v0)), (1, .ref (g.1 v1))]) hx hb dX8_takeAll_1 rfl hl (Nat.le_of_ble_eq_true rfl) rfl (fun ls hl => ?_)
  refine lv_iconst (v := (0 : Int32)) hx hb dX8_takeAll_2 ic_0 ?_
  refine lv_istore_n (lv' := [(3, .int (0 : Int32)), (2, .int (0 : Int32)), (0, .ref (g.1 v0)), (1, .ref (g.1 v1))]) hx hb dX8_takeAll_3 rfl hl (Nat.le_of_ble_eq_true rfl) rfl (fun ls hl => ?_)
  exact (hL4 FU) _ _ _ hF _ _ _ (lv_sub hl [2, 3, 1, 0] rfl) hP hS
theorem xX8_takeAll {p : Program} {l : Launch} {e : Env} {R : Room} {s : State} {m : MethodId} {args : Array Value} {below : List Frame} {meth : Method} {c : Code} {H : Heap} {locs : List Loc} {Q : State → Prop} {cc : ByteArray} {nL : Nat} {own : String} {g : GG} {pc index : Nat} {ls : Array Slot} {rest : List Value} {mc mm : Mem} (Z : ZZ p s m args c cc nL own g) (hP : va_P g.2.2.1 vwCl (wL g mc mm) H) (hS : va_S (AA g s.heap.size) s.heap H locs) {v0 : Nat} {v1 : Nat} (h0 : isO 8 v0) (h1 : isO 7 v1) {q : Int32 × Mem} (hq : F8_takeAll v0 v1 mc = some q) (hlk : Cond.methodLink own index yX8_takeAll ∈ wsL_law) (hsz : ls.size = nL) (hro : (rest.map fun v => v.category).sum ≤ 8) (hR : 5 + 1 ≤ R.frames ∧ 8 + (4 + 11) + 128 ≤ R.locals) (hdg : decode cc pc = .ok (.invokevirtual index, 3)) (kk : ∀ (H : Heap) (locs : List Loc), va_P g.2.2.1 vwCl (wL g q.2 mm) H → va_S (AA g s.heap.size) s.heap H locs → W p l e R s m args below meth c H locs 0 0 Q (F0 m (pc + 3) ls (.int q.1 :: rest))) : W p l e R s m args below meth c H locs 0 0 Q (F0 m pc ls (.ref (g.1 v1) :: .ref (g.1 v0) :: rest)) :=
  x_VI Z hP hS (kX8_takeAll l g v0 v1 h0 h1 mc mm q hq) (isO_w h0) (ci := 8) (by decide) rfl rfl mf_X8_takeAll mv_X8_takeAll hlk rfl rfl hsz hro hR hdg kk

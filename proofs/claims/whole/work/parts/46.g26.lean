theorem dX10_hearsOf_0 : decode cX10_hearsOf 0 = .ok (.iconst 0, 1) := by decide +kernel
theorem dX10_hearsOf_1 : decode cX10_hearsOf 1 = .ok (.istore_n 2, 1) := by decide +kernel
theorem dX10_hearsOf_2 : decode cX10_hearsOf 2 = .ok (.iconst 0, 1) := by decide +kernel
theorem dX10_hearsOf_3 : decode cX10_hearsOf 3 = .ok (.istore_n 3, 1) := by decide +kernel
theorem dX10_hearsOf_4 : decode cX10_hearsOf 4 = .ok (.iload_n 3, 1) := by decide +kernel
theorem dX10_hearsOf_5 : decode cX10_hearsOf 5 = .ok (.aload_n 0, 1) := by decide +kernel
theorem dX10_hearsOf_6 : decode cX10_hearsOf 6 = .ok (.getfield 134, 3) := by decide +kernel
theorem dX10_hearsOf_9 : decode cX10_hearsOf 9 = .ok (.if_icmp .ge 29, 3) := by decide +kernel
theorem dX10_hearsOf_12 : decode cX10_hearsOf 12 = .ok (.iload_n 2, 1) := by decide +kernel
theorem dX10_hearsOf_13 : decode cX10_hearsOf 13 = .ok (.aload_n 0, 1) := by decide +kernel
theorem dX10_hearsOf_14 : decode cX10_hearsOf 14 = .ok (.iload_n 3, 1) := by decide +kernel
theorem dX10_hearsOf_15 : decode cX10_hearsOf 15 = .ok (.iload_n 1, 1) := by decide +kernel
theorem dX10_hearsOf_16 : decode cX10_hearsOf 16 = .ok (.invokevirtual 244, 3) := by decide +kernel
theorem dX10_hearsOf_19 : decode cX10_hearsOf 19 = .ok (.iconst (-1), 1) := by decide +kernel
theorem dX10_hearsOf_20 : decode cX10_hearsOf 20 = .ok (.if_icmp .ne 7, 3) := by decide +kernel
theorem dX10_hearsOf_23 : decode cX10_hearsOf 23 = .ok (.iconst 0, 1) := by decide +kernel
theorem dX10_hearsOf_24 : decode cX10_hearsOf 24 = .ok (.goto 6, 3) := by decide +kernel
theorem dX10_hearsOf_27 : decode cX10_hearsOf 27 = .ok (.iconst 1, 1) := by decide +kernel
theorem dX10_hearsOf_28 : decode cX10_hearsOf 28 = .ok (.iload_n 3, 1) := by decide +kernel
theorem dX10_hearsOf_29 : decode cX10_hearsOf 29 = .ok (.ishl, 1) := by decide +kernel
theorem dX10_hearsOf_30 : decode cX10_hearsOf 30 = .ok (.ior, 1) := by decide +kernel
theorem dX10_hearsOf_31 : decode cX10_hearsOf 31 = .ok (.istore_n 2, 1) := by decide +kernel
theorem dX10_hearsOf_32 : decode cX10_hearsOf 32 = .ok (.iinc 3 1, 3) := by decide +kernel
theorem dX10_hearsOf_35 : decode cX10_hearsOf 35 = .ok (.goto (-31), 3) := by decide +kernel
theorem dX10_hearsOf_38 : decode cX10_hearsOf 38 = .ok (.iload_n 2, 1) := by decide +kernel
theorem dX10_hearsOf_39 : decode cX10_hearsOf 39 = .ok (.ireturn, 1) := by decide +kernel
noncomputable def F10_hearsOf_b30 (kh : Int32 → Int32 → Option (Int32)) (v1 : Int32) (mm : Mem) (a3 : Int32) (s0 : Int32) (s1 : Int32) : Option (Int32) :=
  kh (s0 ||| s1) (a3 + (1 : Int32))
noncomputable def F10_hearsOf_p4 (kh : Int32 → Int32 → Option (Int32)) (v1 : Int32) (mm : Mem) (a2 : Int32) (a3 : Int32) : Option (Int32) :=
  (if (mm 0 9) ≤ a3 then some a2 else ((F10_heardAt a3 v1 mm).bind (fun q2 => (if q2 = (-1 : Int32) then (F10_hearsOf_b30 kh v1 mm) a3 a2 (0 : Int32) else (F10_hearsOf_b30 kh v1 mm) a3 a2 ((1 : Int32) <<< (a3 &&& (31 : Int32)))))))
noncomputable def F10_hearsOf_h4 (v1 : Int32) (mm : Mem) : Nat → Int32 → Int32 → Option (Int32)
  | 0, _, _ => none
  | n + 1, a2, a3 => F10_hearsOf_p4 (F10_hearsOf_h4 v1 mm n) v1 mm a2 a3
noncomputable def F10_hearsOf (v1 : Int32) (mm : Mem) : Option (Int32) :=
  (F10_hearsOf_h4 v1 mm FU) (0 : Int32) (0 : Int32)
set_option maxHeartbeats 4000000 in
set_option maxRecDepth 100000 in
theorem kX10_hearsOf (l : Launch) (g : GG) (v1 : Int32) (mc mm : Mem) (q : Int32) (hF : F10_hearsOf v1 mm = some q) : KI l yX10_hearsOf cX10_hearsOf 4 .int 1 24 g [.ref (g.1 108), .int v1] mc mm q (mc, mm) := by
  intro sz
  refine x_start (Qc := fun z => QI g z q (mc, mm)) (by decide +kernel) (Nat.le_of_ble_eq_true rfl) ?_ sz
  intro p e s m args below meth c ls Z hr hlk hP hl
  have hx := Z.1.1
  have hb := Z.1.2.1
  have hown := Z.1.2.2.2.1
  have hts := Z.1.2.2.2.2
  have hS : va_S (AA g s.heap.size) s.heap s.heap [] := va_S.rf
  have hl : lv_has ls 4 [(0, .ref (g.1 108)), (1, .int v1)] := hl
  unfold F10_hearsOf at hF
  have hL4 : ∀ n : Nat, ∀ (a2 : Int32) (a3 : Int32), F10_hearsOf_h4 v1 mm n a2 a3 = some q → ∀ (H : Heap) (locs : List Loc) (ls : Array Slot), lv_has ls 4 [(0, .ref (g.1 108)), (1, .int v1), (2, .int a2), (3, .int a3)] → va_P g.2.2.1 vwCl (wL g mc mm) H → va_S (AA g s.heap.size) s.heap H locs → W p l e { frames := 1, cells := 0, slots := 0, locals := 24 } s m args below meth c H locs 0 0 (MQ below (QI g s.heap.size q (mc, mm)) args s 0 0 (AA g s.heap.size)) (F0 m 4 ls []) := by
    intro n
    induction n with
    | zero => intro a2 a3 hF H locs ls hl hP hS; exact absurd hF (fun z => nomatch (show (none : Option _) = some q from z))
    | succ n ih =>
      generalize hkh : F10_hearsOf_h4 v1 mm n = kh at ih
      have hb30 : ∀ (a3 : Int32) (s0 : Int32) (s1 : Int32), F10_hearsOf_b30 kh v1 mm a3 s0 s1 = some q → ∀ (H : Heap) (locs : List Loc) (ls : Array Slot), lv_has ls 4 [(0, .ref (g.1 108)), (1, .int v1), (3, .int a3)] → va_P g.2.2.1 vwCl (wL g mc mm) H → va_S (AA g s.heap.size) s.heap H locs → W p l e { frames := 1, cells := 0, slots := 0, locals := 24 } s m args below meth c H locs 0 0 (MQ below (QI g s.heap.size q (mc, mm)) args s 0 0 (AA g s.heap.size)) (F0 m 30 ls [.int s1, .int s0]) := by
        intro a3 s0 s1 hF H locs ls hl hP hS
        unfold F10_hearsOf_b30 at hF
        refine lv_ior hx hb dX10_hearsOf_30 ?_
        refine lv_istore_n (lv' := [(2, .int (s0 ||| s1)), (0, .ref (g.1 108)), (1, .int v1), (3, .int a3)]) hx hb dX10_hearsOf_31 rfl hl (Nat.le_of_ble_eq_true rfl) rfl (fun ls hl => ?_)
        refine lv_iinc (lv' := [(3, .int (a3 + (1 : Int32))), (2, .int (s0 ||| s1)), (0, .ref (g.1 108)), (1, .int v1)]) (v := (a3 + (1 : Int32))) hx hb dX10_hearsOf_32 hl (k := 3) rfl (io_1 _) (Nat.le_of_ble_eq_true rfl) rfl (fun ls hl => ?_)
        refine lv_goto (tgt := 4) hx hb dX10_hearsOf_35 rfl ?_
        exact ih _ _ hF _ _ _ (lv_sub hl [2, 3, 1, 0] rfl) hP hS
      intro a2 a3 hF H locs ls hl hP hS
      have hF : F10_hearsOf_p4 (F10_hearsOf_h4 v1 mm n) v1 mm a2 a3 = some q := hF
      rw [hkh] at hF
      unfold F10_hearsOf_p4 at hF
      refine lv_iload_n hx hb dX10_hearsOf_4 rfl (lv_at hl 3 rfl) ?_
      refine lv_aload_n hx hb dX10_hearsOf_5 rfl (lv_at hl 0 rfl) ?_
      refine gf10_9 Z hP wd_15_5 dX10_hearsOf_6 ?_
      refine lv_icmp_ge (tgt := 38) hx hb dX10_hearsOf_9 rfl (fun hc => ?_) (fun hc => ?_)
      · have hF := (if_pos hc).symm.trans hF
        refine lv_iload_n hx hb dX10_hearsOf_38 rfl (lv_at hl 2 rfl) ?_
        exact ret_I Z hr hlk hP hS hF dX10_hearsOf_39
      · have hF := (if_neg hc).symm.trans hF
        refine lv_iload_n hx hb dX10_hearsOf_12 rfl (lv_at hl 2 rfl) ?_
        refine lv_aload_n hx hb dX10_hearsOf_13 rfl (lv_at hl 0 rfl) ?_
        refine lv_iload_n hx hb dX10_hearsOf_14 rfl (lv_at hl 3 rfl) ?_
        refine lv_iload_n hx hb dX10_hearsOf_15 rfl (lv_at hl 1 rfl) ?_
        obtain ⟨q2, hq2, hF⟩ := bd_ok hF
        refine xX10_heardAt Z hP hS hq2 wd_25_10 hl.1 (Nat.le_of_ble_eq_true rfl) ⟨Nat.le_of_ble_eq_true rfl, Nat.le_of_ble_eq_true rfl⟩ dX10_hearsOf_16 (fun H locs hP hS => ?_)
        refine lv_iconst (v := (-1 : Int32)) hx hb dX10_hearsOf_19 ic_m1 ?_
        refine lv_icmp_ne (tgt := 27) hx hb dX10_hearsOf_20 rfl (fun hc => ?_) (fun hc => ?_)
        · have hF := (if_neg hc).symm.trans hF
          refine lv_iconst (v := (1 : Int32)) hx hb dX10_hearsOf_27 ic_1 ?_
          refine lv_iload_n hx hb dX10_hearsOf_28 rfl (lv_at hl 3 rfl) ?_
          refine lv_ishl hx hb dX10_hearsOf_29 ?_
          exact hb30 _ _ _ hF _ _ _ (lv_sub hl [0, 1, 3] rfl) hP hS
        · have hF := (if_pos hc).symm.trans hF
          refine lv_iconst (v := (0 : Int32)) hx hb dX10_hearsOf_23 ic_0 ?_
          refine lv_goto (tgt := 30) hx hb dX10_hearsOf_24 rfl ?_
          exact hb30 _ _ _ hF _ _ _ (lv_sub hl [0, 1, 3] rfl) hP hS
  refine lv_iconst (v := (0 : Int32)) hx hb dX10_hearsOf_0 ic_0 ?_
  refine lv_istore_n (lv' := [(2, .int (0 : Int32)), (0, .ref (g.1 108)), (1, .int v1)]) hx hb dX10_hearsOf_1 rfl hl (Nat.le_of_ble_eq_true rfl) rfl (fun ls hl => ?_)
  refine lv_iconst (v := (0 : Int32)) hx hb dX10_hearsOf_2 ic_0 ?_
  refine lv_istore_n (lv' := [(3, .int (0 : Int32)), (2, .int (0 : Int32)), (0, .ref (g.1 108)), (1, .int v1)]) hx hb dX10_hearsOf_3 rfl hl (Nat.le_of_ble_eq_true rfl) rfl (fun ls hl => ?_)
  exact (hL4 FU) _ _ hF _ _ _ (lv_sub hl [2, 3, 1, 0] rfl) hP hS
theorem xX10_hearsOf {p : Program} {l : Launch} {e : Env} {R : Room} {s : State} {m : MethodId} {args : Array Value} {below : List Frame} {meth : Method} {c : Code} {H : Heap} {locs : List Loc} {Q : State → Prop} {cc : ByteArray} {nL : Nat} {own : String} {g : GG} {pc index : Nat} {ls : Array Slot} {rest : List Value} {mc mm : Mem} (Z : ZZ p s m args c cc nL own g) (hP : va_P g.2.2.1 vwCl (wL g mc mm) H) (hS : va_S (AA g s.heap.size) s.heap H locs) {v1 : Int32} {q : Int32} (hq : F10_hearsOf v1 mm = some q) (hlk : Cond.methodLink own index yX10_hearsOf ∈ wsL_law) (hsz : ls.size = nL) (hro : (rest.map fun v => v.category).sum ≤ 8) (hR : 1 + 1 ≤ R.frames ∧ 8 + (4 + 11) + 24 ≤ R.locals) (hdg : decode cc pc = .ok (.invokevirtual index, 3)) (kk : ∀ (H : Heap) (locs : List Loc), va_P g.2.2.1 vwCl (wL g mc mm) H → va_S (AA g s.heap.size) s.heap H locs → W p l e R s m args below meth c H locs 0 0 Q (F0 m (pc + 3) ls (.int q :: rest))) : W p l e R s m args below meth c H locs 0 0 Q (F0 m pc ls (.int v1 :: .ref (g.1 108) :: rest)) :=
  x_VI Z hP hS (kX10_hearsOf l g v1 mc mm q hq) (mO) (ci := 10) (by decide) rfl rfl mf_X10_hearsOf mv_X10_hearsOf hlk rfl rfl hsz hro hR hdg kk
theorem dX10_hears_0 : decode cX10_hears 0 = .ok (.aload_n 0, 1) := by decide +kernel
theorem dX10_hears_1 : decode cX10_hears 1 = .ok (.invokevirtual 236, 3) := by decide +kernel
theorem dX10_hears_4 : decode cX10_hears 4 = .ok (.aload_n 0, 1) := by decide +kernel
theorem dX10_hears_5 : decode cX10_hears 5 = .ok (.iload_n 1, 1) := by decide +kernel
theorem dX10_hears_6 : decode cX10_hears 6 = .ok (.invokevirtual 160, 3) := by decide +kernel
theorem dX10_hears_9 : decode cX10_hears 9 = .ok (.ifCond .eq 11, 3) := by decide +kernel
theorem dX10_hears_12 : decode cX10_hears 12 = .ok (.aload_n 0, 1) := by decide +kernel
theorem dX10_hears_13 : decode cX10_hears 13 = .ok (.iload_n 1, 1) := by decide +kernel
theorem dX10_hears_14 : decode cX10_hears 14 = .ok (.invokevirtual 247, 3) := by decide +kernel
theorem dX10_hears_17 : decode cX10_hears 17 = .ok (.goto 5, 3) := by decide +kernel
theorem dX10_hears_20 : decode cX10_hears 20 = .ok (.bipush (-2), 2) := by decide +kernel
theorem dX10_hears_22 : decode cX10_hears 22 = .ok (.ireturn, 1) := by decide +kernel
noncomputable def F10_hears (v1 : Int32) (mm : Mem) : Option (Int32 × Mem) :=
  ((F10_find mm).bind (fun q4 => ((F10_isWell v1 q4).bind (fun q5 => (if q5 = (0 : Int32) then some ((-2 : Int32), q4) else ((F10_hearsOf v1 q4).bind (fun q6 => (some (q6, q4)))))))))
set_option maxHeartbeats 4000000 in
set_option maxRecDepth 100000 in
theorem kX10_hears (l : Launch) (g : GG) (v1 : Int32) (mc mm : Mem) (q : Int32 × Mem) (hF : F10_hears v1 mm = some q) : KI l yX10_hears cX10_hears 2 .int 7 159 g [.ref (g.1 108), .int v1] mc mm q.1 (mc, q.2) := by
  intro sz
  refine x_start (Qc := fun z => QI g z q.1 (mc, q.2)) (by decide +kernel) (Nat.le_of_ble_eq_true rfl) ?_ sz
  intro p e s m args below meth c ls Z hr hlk hP hl
  have hx := Z.1.1
  have hb := Z.1.2.1
  have hown := Z.1.2.2.2.1
  have hts := Z.1.2.2.2.2
  have hS : va_S (AA g s.heap.size) s.heap s.heap [] := va_S.rf
  have hl : lv_has ls 2 [(0, .ref (g.1 108)), (1, .int v1)] := hl
  unfold F10_hears at hF
  refine lv_aload_n hx hb dX10_hears_0 rfl (lv_at hl 0 rfl) ?_
  obtain ⟨q4, hq4, hF⟩ := bd_ok hF
  refine xX10_find Z hP hS hq4 wd_22_5 hl.1 (Nat.le_of_ble_eq_true rfl) ⟨Nat.le_of_ble_eq_true rfl, Nat.le_of_ble_eq_true rfl⟩ dX10_hears_1 (fun H locs hP hS => ?_)
  refine lv_aload_n hx hb dX10_hears_4 rfl (lv_at hl 0 rfl) ?_
  refine lv_iload_n hx hb dX10_hears_5 rfl (lv_at hl 1 rfl) ?_
  obtain ⟨q5, hq5, hF⟩ := bd_ok hF
  refine xX10_isWell Z hP hS hq5 wd_15_22 hl.1 (Nat.le_of_ble_eq_true rfl) ⟨Nat.le_of_ble_eq_true rfl, Nat.le_of_ble_eq_true rfl⟩ dX10_hears_6 (fun H locs hP hS => ?_)
  refine lv_if_eq (tgt := 20) hx hb dX10_hears_9 rfl (fun hc => ?_) (fun hc => ?_)
  · have hF := (if_pos hc).symm.trans hF
    refine lv_bipush (v := (-2 : Int32)) hx hb dX10_hears_20 bp_m2 ?_
    exact ret_IWM Z hr hlk hP hS hF dX10_hears_22
  · have hF := (if_neg hc).symm.trans hF
    refine lv_aload_n hx hb dX10_hears_12 rfl (lv_at hl 0 rfl) ?_
    refine lv_iload_n hx hb dX10_hears_13 rfl (lv_at hl 1 rfl) ?_
    obtain ⟨q6, hq6, hF⟩ := bd_ok hF
    refine xX10_hearsOf Z hP hS hq6 wd_25_6 hl.1 (Nat.le_of_ble_eq_true rfl) ⟨Nat.le_of_ble_eq_true rfl, Nat.le_of_ble_eq_true rfl⟩ dX10_hears_14 (fun H locs hP hS => ?_)
    refine lv_goto (tgt := 22) hx hb dX10_hears_17 rfl ?_
    exact ret_IWM Z hr hlk hP hS hF dX10_hears_22
theorem xX10_hears {p : Program} {l : Launch} {e : Env} {R : Room} {s : State} {m : MethodId} {args : Array Value} {below : List Frame} {meth : Method} {c : Code} {H : Heap} {locs : List Loc} {Q : State → Prop} {cc : ByteArray} {nL : Nat} {own : String} {g : GG} {pc index : Nat} {ls : Array Slot} {rest : List Value} {mc mm : Mem} (Z : ZZ p s m args c cc nL own g) (hP : va_P g.2.2.1 vwCl (wL g mc mm) H) (hS : va_S (AA g s.heap.size) s.heap H locs) {v1 : Int32} {q : Int32 × Mem} (hq : F10_hears v1 mm = some q) (hlk : Cond.methodLink own index yX10_hears ∈ wsL_law) (hsz : ls.size = nL) (hro : (rest.map fun v => v.category).sum ≤ 8) (hR : 7 + 1 ≤ R.frames ∧ 8 + (2 + 11) + 159 ≤ R.locals) (hdg : decode cc pc = .ok (.invokevirtual index, 3)) (kk : ∀ (H : Heap) (locs : List Loc), va_P g.2.2.1 vwCl (wL g mc q.2) H → va_S (AA g s.heap.size) s.heap H locs → W p l e R s m args below meth c H locs 0 0 Q (F0 m (pc + 3) ls (.int q.1 :: rest))) : W p l e R s m args below meth c H locs 0 0 Q (F0 m pc ls (.int v1 :: .ref (g.1 108) :: rest)) :=
  x_VI Z hP hS (kX10_hears l g v1 mc mm q hq) (mO) (ci := 10) (by decide) rfl rfl mf_X10_hears mv_X10_hears hlk rfl rfl hsz hro hR hdg kk
theorem dX10_soonOf_0 : decode cX10_soonOf 0 = .ok (.iconst (-1), 1) := by decide +kernel
theorem dX10_soonOf_1 : decode cX10_soonOf 1 = .ok (.istore_n 2, 1) := by decide +kernel
theorem dX10_soonOf_2 : decode cX10_soonOf 2 = .ok (.iconst 0, 1) := by decide +kernel
theorem dX10_soonOf_3 : decode cX10_soonOf 3 = .ok (.istore_n 3, 1) := by decide +kernel
theorem dX10_soonOf_4 : decode cX10_soonOf 4 = .ok (.iload_n 3, 1) := by decide +kernel
theorem dX10_soonOf_5 : decode cX10_soonOf 5 = .ok (.aload_n 0, 1) := by decide +kernel
theorem dX10_soonOf_6 : decode cX10_soonOf 6 = .ok (.getfield 134, 3) := by decide +kernel
theorem dX10_soonOf_9 : decode cX10_soonOf 9 = .ok (.if_icmp .ge 41, 3) := by decide +kernel
theorem dX10_soonOf_12 : decode cX10_soonOf 12 = .ok (.aload_n 0, 1) := by decide +kernel
theorem dX10_soonOf_13 : decode cX10_soonOf 13 = .ok (.iload_n 3, 1) := by decide +kernel
theorem dX10_soonOf_14 : decode cX10_soonOf 14 = .ok (.iload_n 1, 1) := by decide +kernel
theorem dX10_soonOf_15 : decode cX10_soonOf 15 = .ok (.invokevirtual 244, 3) := by decide +kernel
theorem dX10_soonOf_18 : decode cX10_soonOf 18 = .ok (.istore 4, 2) := by decide +kernel
theorem dX10_soonOf_20 : decode cX10_soonOf 20 = .ok (.iload 4, 2) := by decide +kernel
theorem dX10_soonOf_22 : decode cX10_soonOf 22 = .ok (.iconst (-1), 1) := by decide +kernel
theorem dX10_soonOf_23 : decode cX10_soonOf 23 = .ok (.if_icmp .eq 19, 3) := by decide +kernel
theorem dX10_soonOf_26 : decode cX10_soonOf 26 = .ok (.iload_n 2, 1) := by decide +kernel
theorem dX10_soonOf_27 : decode cX10_soonOf 27 = .ok (.iconst (-1), 1) := by decide +kernel
theorem dX10_soonOf_28 : decode cX10_soonOf 28 = .ok (.if_icmp .eq 9, 3) := by decide +kernel
theorem dX10_soonOf_31 : decode cX10_soonOf 31 = .ok (.iload 4, 2) := by decide +kernel
theorem dX10_soonOf_33 : decode cX10_soonOf 33 = .ok (.iload_n 2, 1) := by decide +kernel
theorem dX10_soonOf_34 : decode cX10_soonOf 34 = .ok (.if_icmp .ge 8, 3) := by decide +kernel
theorem dX10_soonOf_37 : decode cX10_soonOf 37 = .ok (.iload 4, 2) := by decide +kernel
theorem dX10_soonOf_39 : decode cX10_soonOf 39 = .ok (.goto 4, 3) := by decide +kernel
theorem dX10_soonOf_42 : decode cX10_soonOf 42 = .ok (.iload_n 2, 1) := by decide +kernel
theorem dX10_soonOf_43 : decode cX10_soonOf 43 = .ok (.istore_n 2, 1) := by decide +kernel
theorem dX10_soonOf_44 : decode cX10_soonOf 44 = .ok (.iinc 3 1, 3) := by decide +kernel
theorem dX10_soonOf_47 : decode cX10_soonOf 47 = .ok (.goto (-43), 3) := by decide +kernel
theorem dX10_soonOf_50 : decode cX10_soonOf 50 = .ok (.iload_n 2, 1) := by decide +kernel
theorem dX10_soonOf_51 : decode cX10_soonOf 51 = .ok (.ireturn, 1) := by decide +kernel
noncomputable def F10_soonOf_b43 (kh : Int32 → Int32 → Option (Int32)) (v1 : Int32) (mm : Mem) (a3 : Int32) (s0 : Int32) : Option (Int32) :=
  kh s0 (a3 + (1 : Int32))
noncomputable def F10_soonOf_b42 (kh : Int32 → Int32 → Option (Int32)) (v1 : Int32) (mm : Mem) (a2 : Int32) (a3 : Int32) : Option (Int32) :=
  (F10_soonOf_b43 kh v1 mm) a3 a2
noncomputable def F10_soonOf_b37 (kh : Int32 → Int32 → Option (Int32)) (v1 : Int32) (mm : Mem) (a3 : Int32) (a4 : Int32) : Option (Int32) :=
  (F10_soonOf_b43 kh v1 mm) a3 a4
noncomputable def F10_soonOf_p4 (kh : Int32 → Int32 → Option (Int32)) (v1 : Int32) (mm : Mem) (a2 : Int32) (a3 : Int32) : Option (Int32) :=
  (if (mm 0 9) ≤ a3 then some a2 else ((F10_heardAt a3 v1 mm).bind (fun q2 => (if q2 = (-1 : Int32) then (F10_soonOf_b42 kh v1 mm) a2 a3 else (if a2 = (-1 : Int32) then (F10_soonOf_b37 kh v1 mm) a3 q2 else (if a2 ≤ q2 then (F10_soonOf_b42 kh v1 mm) a2 a3 else (F10_soonOf_b37 kh v1 mm) a3 q2))))))
noncomputable def F10_soonOf_h4 (v1 : Int32) (mm : Mem) : Nat → Int32 → Int32 → Option (Int32)
  | 0, _, _ => none
  | n + 1, a2, a3 => F10_soonOf_p4 (F10_soonOf_h4 v1 mm n) v1 mm a2 a3
noncomputable def F10_soonOf (v1 : Int32) (mm : Mem) : Option (Int32) :=
  (F10_soonOf_h4 v1 mm FU) (-1 : Int32) (0 : Int32)
set_option maxHeartbeats 4000000 in
set_option maxRecDepth 100000 in
theorem kX10_soonOf (l : Launch) (g : GG) (v1 : Int32) (mc mm : Mem) (q : Int32) (hF : F10_soonOf v1 mm = some q) : KI l yX10_soonOf cX10_soonOf 5 .int 1 24 g [.ref (g.1 108), .int v1] mc mm q (mc, mm) := by
  intro sz
  refine x_start (Qc := fun z => QI g z q (mc, mm)) (by decide +kernel) (Nat.le_of_ble_eq_true rfl) ?_ sz
  intro p e s m args below meth c ls Z hr hlk hP hl
  have hx := Z.1.1
  have hb := Z.1.2.1
  have hown := Z.1.2.2.2.1
  have hts := Z.1.2.2.2.2
  have hS : va_S (AA g s.heap.size) s.heap s.heap [] := va_S.rf
  have hl : lv_has ls 5 [(0, .ref (g.1 108)), (1, .int v1)] := hl
  unfold F10_soonOf at hF
  have hL4 : ∀ n : Nat, ∀ (a2 : Int32) (a3 : Int32), F10_soonOf_h4 v1 mm n a2 a3 = some q → ∀ (H : Heap) (locs : List Loc) (ls : Array Slot), lv_has ls 5 [(0, .ref (g.1 108)), (1, .int v1), (2, .int a2), (3, .int a3)] → va_P g.2.2.1 vwCl (wL g mc mm) H → va_S (AA g s.heap.size) s.heap H locs → W p l e { frames := 1, cells := 0, slots := 0, locals := 24 } s m args below meth c H locs 0 0 (MQ below (QI g s.heap.size q (mc, mm)) args s 0 0 (AA g s.heap.size)) (F0 m 4 ls []) := by
    intro n
    induction n with
    | zero => intro a2 a3 hF H locs ls hl hP hS; exact absurd hF (fun z => nomatch (show (none : Option _) = some q from z))
    | succ n ih =>
      generalize hkh : F10_soonOf_h4 v1 mm n = kh at ih
      have hb43 : ∀ (a3 : Int32) (s0 : Int32), F10_soonOf_b43 kh v1 mm a3 s0 = some q → ∀ (H : Heap) (locs : List Loc) (ls : Array Slot), lv_has ls 5 [(0, .ref (g.1 108)), (1, .int v1), (3, .int a3)] → va_P g.2.2.1 vwCl (wL g mc mm) H → va_S (AA g s.heap.size) s.heap H locs → W p l e { frames := 1, cells := 0, slots := 0, locals := 24 } s m args below meth c H locs 0 0 (MQ below (QI g s.heap.size q (mc, mm)) args s 0 0 (AA g s.heap.size)) (F0 m 43 ls [.int s0]) := by
        intro a3 s0 hF H locs ls hl hP hS
        unfold F10_soonOf_b43 at hF
        refine lv_istore_n (lv' := [(2, .int s0), (0, .ref (g.1 108)), (1, .int v1), (3, .int a3)]) hx hb dX10_soonOf_43 rfl hl (Nat.le_of_ble_eq_true rfl) rfl (fun ls hl => ?_)
        refine lv_iinc (lv' := [(3, .int (a3 + (1 : Int32))), (2, .int s0), (0, .ref (g.1 108)), (1, .int v1)]) (v := (a3 + (1 : Int32))) hx hb dX10_soonOf_44 hl (k := 3) rfl (io_1 _) (Nat.le_of_ble_eq_true rfl) rfl (fun ls hl => ?_)
        refine lv_goto (tgt := 4) hx hb dX10_soonOf_47 rfl ?_
        exact ih _ _ hF _ _ _ (lv_sub hl [2, 3, 1, 0] rfl) hP hS
      have hb42 : ∀ (a2 : Int32) (a3 : Int32), F10_soonOf_b42 kh v1 mm a2 a3 = some q → ∀ (H : Heap) (locs : List Loc) (ls : Array Slot), lv_has ls 5 [(0, .ref (g.1 108)), (1, .int v1), (2, .int a2), (3, .int a3)] → va_P g.2.2.1 vwCl (wL g mc mm) H → va_S (AA g s.heap.size) s.heap H locs → W p l e { frames := 1, cells := 0, slots := 0, locals := 24 } s m args below meth c H locs 0 0 (MQ below (QI g s.heap.size q (mc, mm)) args s 0 0 (AA g s.heap.size)) (F0 m 42 ls []) := by
        intro a2 a3 hF H locs ls hl hP hS
        unfold F10_soonOf_b42 at hF
        refine lv_iload_n hx hb dX10_soonOf_42 rfl (lv_at hl 2 rfl) ?_
        exact hb43 _ _ hF _ _ _ (lv_sub hl [0, 1, 3] rfl) hP hS
      have hb37 : ∀ (a3 : Int32) (a4 : Int32), F10_soonOf_b37 kh v1 mm a3 a4 = some q → ∀ (H : Heap) (locs : List Loc) (ls : Array Slot), lv_has ls 5 [(0, .ref (g.1 108)), (1, .int v1), (3, .int a3), (4, .int a4)] → va_P g.2.2.1 vwCl (wL g mc mm) H → va_S (AA g s.heap.size) s.heap H locs → W p l e { frames := 1, cells := 0, slots := 0, locals := 24 } s m args below meth c H locs 0 0 (MQ below (QI g s.heap.size q (mc, mm)) args s 0 0 (AA g s.heap.size)) (F0 m 37 ls []) := by
        intro a3 a4 hF H locs ls hl hP hS
        unfold F10_soonOf_b37 at hF
        refine lv_iload hx hb dX10_soonOf_37 (lv_at hl 3 rfl) ?_
        refine lv_goto (tgt := 43) hx hb dX10_soonOf_39 rfl ?_
        exact hb43 _ _ hF _ _ _ (lv_sub hl [0, 1, 2] rfl) hP hS
      intro a2 a3 hF H locs ls hl hP hS
      have hF : F10_soonOf_p4 (F10_soonOf_h4 v1 mm n) v1 mm a2 a3 = some q := hF
      rw [hkh] at hF
      unfold F10_soonOf_p4 at hF
      refine lv_iload_n hx hb dX10_soonOf_4 rfl (lv_at hl 3 rfl) ?_
      refine lv_aload_n hx hb dX10_soonOf_5 rfl (lv_at hl 0 rfl) ?_
      refine gf10_9 Z hP wd_15_5 dX10_soonOf_6 ?_
      refine lv_icmp_ge (tgt := 50) hx hb dX10_soonOf_9 rfl (fun hc => ?_) (fun hc => ?_)
      · have hF := (if_pos hc).symm.trans hF
        refine lv_iload_n hx hb dX10_soonOf_50 rfl (lv_at hl 2 rfl) ?_
        exact ret_I Z hr hlk hP hS hF dX10_soonOf_51
      · have hF := (if_neg hc).symm.trans hF
        refine lv_aload_n hx hb dX10_soonOf_12 rfl (lv_at hl 0 rfl) ?_
        refine lv_iload_n hx hb dX10_soonOf_13 rfl (lv_at hl 3 rfl) ?_
        refine lv_iload_n hx hb dX10_soonOf_14 rfl (lv_at hl 1 rfl) ?_
        obtain ⟨q2, hq2, hF⟩ := bd_ok hF
        refine xX10_heardAt Z hP hS hq2 wd_25_10 hl.1 (Nat.le_of_ble_eq_true rfl) ⟨Nat.le_of_ble_eq_true rfl, Nat.le_of_ble_eq_true rfl⟩ dX10_soonOf_15 (fun H locs hP hS => ?_)
        refine lv_istore (lv' := [(4, .int q2), (0, .ref (g.1 108)), (1, .int v1), (2, .int a2), (3, .int a3)]) hx hb dX10_soonOf_18 hl (Nat.le_of_ble_eq_true rfl) rfl (fun ls hl => ?_)
        refine lv_iload hx hb dX10_soonOf_20 (lv_at hl 0 rfl) ?_
        refine lv_iconst (v := (-1 : Int32)) hx hb dX10_soonOf_22 ic_m1 ?_
        refine lv_icmp_eq (tgt := 42) hx hb dX10_soonOf_23 rfl (fun hc => ?_) (fun hc => ?_)
        · have hF := (if_pos hc).symm.trans hF
          exact hb42 _ _ hF _ _ _ (lv_sub hl [1, 2, 3, 4] rfl) hP hS
        · have hF := (if_neg hc).symm.trans hF
          refine lv_iload_n hx hb dX10_soonOf_26 rfl (lv_at hl 3 rfl) ?_
          refine lv_iconst (v := (-1 : Int32)) hx hb dX10_soonOf_27 ic_m1 ?_
          refine lv_icmp_eq (tgt := 37) hx hb dX10_soonOf_28 rfl (fun hc => ?_) (fun hc => ?_)
          · have hF := (if_pos hc).symm.trans hF
            exact hb37 _ _ hF _ _ _ (lv_sub hl [1, 2, 4, 0] rfl) hP hS
          · have hF := (if_neg hc).symm.trans hF
            refine lv_iload hx hb dX10_soonOf_31 (lv_at hl 0 rfl) ?_
            refine lv_iload_n hx hb dX10_soonOf_33 rfl (lv_at hl 3 rfl) ?_
            refine lv_icmp_ge (tgt := 42) hx hb dX10_soonOf_34 rfl (fun hc => ?_) (fun hc => ?_)
            · have hF := (if_pos hc).symm.trans hF
              exact hb42 _ _ hF _ _ _ (lv_sub hl [1, 2, 3, 4] rfl) hP hS
            · have hF := (if_neg hc).symm.trans hF
              exact hb37 _ _ hF _ _ _ (lv_sub hl [1, 2, 4, 0] rfl) hP hS
  refine lv_iconst (v := (-1 : Int32)) hx hb dX10_soonOf_0 ic_m1 ?_
  refine lv_istore_n (lv' := [(2, .int (-1 : Int32)), (0, .ref (g.1 108)), (1, .int v1)]) hx hb dX10_soonOf_1 rfl hl (Nat.le_of_ble_eq_true rfl) rfl (fun ls hl => ?_)
  refine lv_iconst (v := (0 : Int32)) hx hb dX10_soonOf_2 ic_0 ?_
  refine lv_istore_n (lv' := [(3, .int (0 : Int32)), (2, .int (-1 : Int32)), (0, .ref (g.1 108)), (1, .int v1)]) hx hb dX10_soonOf_3 rfl hl (Nat.le_of_ble_eq_true rfl) rfl (fun ls hl => ?_)
  exact (hL4 FU) _ _ hF _ _ _ (lv_sub hl [2, 3, 1, 0] rfl) hP hS
theorem xX10_soonOf {p : Program} {l : Launch} {e : Env} {R : Room} {s : State} {m : MethodId} {args : Array Value} {below : List Frame} {meth : Method} {c : Code} {H : Heap} {locs : List Loc} {Q : State → Prop} {cc : ByteArray} {nL : Nat} {own : String} {g : GG} {pc index : Nat} {ls : Array Slot} {rest : List Value} {mc mm : Mem} (Z : ZZ p s m args c cc nL own g) (hP : va_P g.2.2.1 vwCl (wL g mc mm) H) (hS : va_S (AA g s.heap.size) s.heap H locs) {v1 : Int32} {q : Int32} (hq : F10_soonOf v1 mm = some q) (hlk : Cond.methodLink own index yX10_soonOf ∈ wsL_law) (hsz : ls.size = nL) (hro : (rest.map fun v => v.category).sum ≤ 8) (hR : 1 + 1 ≤ R.frames ∧ 8 + (5 + 11) + 24 ≤ R.locals) (hdg : decode cc pc = .ok (.invokevirtual index, 3)) (kk : ∀ (H : Heap) (locs : List Loc), va_P g.2.2.1 vwCl (wL g mc mm) H → va_S (AA g s.heap.size) s.heap H locs → W p l e R s m args below meth c H locs 0 0 Q (F0 m (pc + 3) ls (.int q :: rest))) : W p l e R s m args below meth c H locs 0 0 Q (F0 m pc ls (.int v1 :: .ref (g.1 108) :: rest)) :=
  x_VI Z hP hS (kX10_soonOf l g v1 mc mm q hq) (mO) (ci := 10) (by decide) rfl rfl mf_X10_soonOf mv_X10_soonOf hlk rfl rfl hsz hro hR hdg kk
theorem dX10_soon_0 : decode cX10_soon 0 = .ok (.aload_n 0, 1) := by decide +kernel
theorem dX10_soon_1 : decode cX10_soon 1 = .ok (.invokevirtual 236, 3) := by decide +kernel
theorem dX10_soon_4 : decode cX10_soon 4 = .ok (.aload_n 0, 1) := by decide +kernel
theorem dX10_soon_5 : decode cX10_soon 5 = .ok (.iload_n 1, 1) := by decide +kernel
theorem dX10_soon_6 : decode cX10_soon 6 = .ok (.invokevirtual 160, 3) := by decide +kernel
theorem dX10_soon_9 : decode cX10_soon 9 = .ok (.ifCond .eq 11, 3) := by decide +kernel
theorem dX10_soon_12 : decode cX10_soon 12 = .ok (.aload_n 0, 1) := by decide +kernel
theorem dX10_soon_13 : decode cX10_soon 13 = .ok (.iload_n 1, 1) := by decide +kernel
theorem dX10_soon_14 : decode cX10_soon 14 = .ok (.invokevirtual 250, 3) := by decide +kernel
theorem dX10_soon_17 : decode cX10_soon 17 = .ok (.goto 5, 3) := by decide +kernel
theorem dX10_soon_20 : decode cX10_soon 20 = .ok (.bipush (-2), 2) := by decide +kernel
theorem dX10_soon_22 : decode cX10_soon 22 = .ok (.ireturn, 1) := by decide +kernel
noncomputable def F10_soon (v1 : Int32) (mm : Mem) : Option (Int32 × Mem) :=
  ((F10_find mm).bind (fun q4 => ((F10_isWell v1 q4).bind (fun q5 => (if q5 = (0 : Int32) then some ((-2 : Int32), q4) else ((F10_soonOf v1 q4).bind (fun q6 => (some (q6, q4)))))))))
set_option maxHeartbeats 4000000 in
set_option maxRecDepth 100000 in
theorem kX10_soon (l : Launch) (g : GG) (v1 : Int32) (mc mm : Mem) (q : Int32 × Mem) (hF : F10_soon v1 mm = some q) : KI l yX10_soon cX10_soon 2 .int 7 159 g [.ref (g.1 108), .int v1] mc mm q.1 (mc, q.2) := by
  intro sz
  refine x_start (Qc := fun z => QI g z q.1 (mc, q.2)) (by decide +kernel) (Nat.le_of_ble_eq_true rfl) ?_ sz
  intro p e s m args below meth c ls Z hr hlk hP hl
  have hx := Z.1.1
  have hb := Z.1.2.1
  have hown := Z.1.2.2.2.1
  have hts := Z.1.2.2.2.2
  have hS : va_S (AA g s.heap.size) s.heap s.heap [] := va_S.rf
  have hl : lv_has ls 2 [(0, .ref (g.1 108)), (1, .int v1)] := hl
  unfold F10_soon at hF
  refine lv_aload_n hx hb dX10_soon_0 rfl (lv_at hl 0 rfl) ?_
  obtain ⟨q4, hq4, hF⟩ := bd_ok hF
  refine xX10_find Z hP hS hq4 wd_22_5 hl.1 (Nat.le_of_ble_eq_true rfl) ⟨Nat.le_of_ble_eq_true rfl, Nat.le_of_ble_eq_true rfl⟩ dX10_soon_1 (fun H locs hP hS => ?_)
  refine lv_aload_n hx hb dX10_soon_4 rfl (lv_at hl 0 rfl) ?_
  refine lv_iload_n hx hb dX10_soon_5 rfl (lv_at hl 1 rfl) ?_
  obtain ⟨q5, hq5, hF⟩ := bd_ok hF
  refine xX10_isWell Z hP hS hq5 wd_15_22 hl.1 (Nat.le_of_ble_eq_true rfl) ⟨Nat.le_of_ble_eq_true rfl, Nat.le_of_ble_eq_true rfl⟩ dX10_soon_6 (fun H locs hP hS => ?_)
  refine lv_if_eq (tgt := 20) hx hb dX10_soon_9 rfl (fun hc => ?_) (fun hc => ?_)
  · have hF := (if_pos hc).symm.trans hF
    refine lv_bipush (v := (-2 : Int32)) hx hb dX10_soon_20 bp_m2 ?_
    exact ret_IWM Z hr hlk hP hS hF dX10_soon_22
  · have hF := (if_neg hc).symm.trans hF
    refine lv_aload_n hx hb dX10_soon_12 rfl (lv_at hl 0 rfl) ?_
    refine lv_iload_n hx hb dX10_soon_13 rfl (lv_at hl 1 rfl) ?_
    obtain ⟨q6, hq6, hF⟩ := bd_ok hF
    refine xX10_soonOf Z hP hS hq6 wd_26_2 hl.1 (Nat.le_of_ble_eq_true rfl) ⟨Nat.le_of_ble_eq_true rfl, Nat.le_of_ble_eq_true rfl⟩ dX10_soon_14 (fun H locs hP hS => ?_)
    refine lv_goto (tgt := 22) hx hb dX10_soon_17 rfl ?_
    exact ret_IWM Z hr hlk hP hS hF dX10_soon_22
theorem xX10_soon {p : Program} {l : Launch} {e : Env} {R : Room} {s : State} {m : MethodId} {args : Array Value} {below : List Frame} {meth : Method} {c : Code} {H : Heap} {locs : List Loc} {Q : State → Prop} {cc : ByteArray} {nL : Nat} {own : String} {g : GG} {pc index : Nat} {ls : Array Slot} {rest : List Value} {mc mm : Mem} (Z : ZZ p s m args c cc nL own g) (hP : va_P g.2.2.1 vwCl (wL g mc mm) H) (hS : va_S (AA g s.heap.size) s.heap H locs) {v1 : Int32} {q : Int32 × Mem} (hq : F10_soon v1 mm = some q) (hlk : Cond.methodLink own index yX10_soon ∈ wsL_law) (hsz : ls.size = nL) (hro : (rest.map fun v => v.category).sum ≤ 8) (hR : 7 + 1 ≤ R.frames ∧ 8 + (2 + 11) + 159 ≤ R.locals) (hdg : decode cc pc = .ok (.invokevirtual index, 3)) (kk : ∀ (H : Heap) (locs : List Loc), va_P g.2.2.1 vwCl (wL g mc q.2) H → va_S (AA g s.heap.size) s.heap H locs → W p l e R s m args below meth c H locs 0 0 Q (F0 m (pc + 3) ls (.int q.1 :: rest))) : W p l e R s m args below meth c H locs 0 0 Q (F0 m pc ls (.int v1 :: .ref (g.1 108) :: rest)) :=
  x_VI Z hP hS (kX10_soon l g v1 mc mm q hq) (mO) (ci := 10) (by decide) rfl rfl mf_X10_soon mv_X10_soon hlk rfl rfl hsz hro hR hdg kk
theorem dX10_goneNow_0 : decode cX10_goneNow 0 = .ok (.iconst 0, 1) := by decide +kernel
theorem dX10_goneNow_1 : decode cX10_goneNow 1 = .ok (.istore_n 1, 1) := by decide +kernel
theorem dX10_goneNow_2 : decode cX10_goneNow 2 = .ok (.iconst 0, 1) := by decide +kernel
theorem dX10_goneNow_3 : decode cX10_goneNow 3 = .ok (.istore_n 2, 1) := by decide +kernel
theorem dX10_goneNow_4 : decode cX10_goneNow 4 = .ok (.iload_n 2, 1) := by decide +kernel
theorem dX10_goneNow_5 : decode cX10_goneNow 5 = .ok (.aload_n 0, 1) := by decide +kernel
theorem dX10_goneNow_6 : decode cX10_goneNow 6 = .ok (.getfield 134, 3) := by decide +kernel
theorem dX10_goneNow_9 : decode cX10_goneNow 9 = .ok (.if_icmp .ge 28, 3) := by decide +kernel
theorem dX10_goneNow_12 : decode cX10_goneNow 12 = .ok (.iload_n 1, 1) := by decide +kernel
theorem dX10_goneNow_13 : decode cX10_goneNow 13 = .ok (.aload_n 0, 1) := by decide +kernel
theorem dX10_goneNow_14 : decode cX10_goneNow 14 = .ok (.getfield 52, 3) := by decide +kernel
theorem dX10_goneNow_17 : decode cX10_goneNow 17 = .ok (.iload_n 2, 1) := by decide +kernel
theorem dX10_goneNow_18 : decode cX10_goneNow 18 = .ok (.baload, 1) := by decide +kernel
theorem dX10_goneNow_19 : decode cX10_goneNow 19 = .ok (.ifCond .eq 9, 3) := by decide +kernel
theorem dX10_goneNow_22 : decode cX10_goneNow 22 = .ok (.iconst 1, 1) := by decide +kernel
theorem dX10_goneNow_23 : decode cX10_goneNow 23 = .ok (.iload_n 2, 1) := by decide +kernel
theorem dX10_goneNow_24 : decode cX10_goneNow 24 = .ok (.ishl, 1) := by decide +kernel
theorem dX10_goneNow_25 : decode cX10_goneNow 25 = .ok (.goto 4, 3) := by decide +kernel
theorem dX10_goneNow_28 : decode cX10_goneNow 28 = .ok (.iconst 0, 1) := by decide +kernel
theorem dX10_goneNow_29 : decode cX10_goneNow 29 = .ok (.ior, 1) := by decide +kernel
theorem dX10_goneNow_30 : decode cX10_goneNow 30 = .ok (.istore_n 1, 1) := by decide +kernel
theorem dX10_goneNow_31 : decode cX10_goneNow 31 = .ok (.iinc 2 1, 3) := by decide +kernel
theorem dX10_goneNow_34 : decode cX10_goneNow 34 = .ok (.goto (-30), 3) := by decide +kernel
theorem dX10_goneNow_37 : decode cX10_goneNow 37 = .ok (.iload_n 1, 1) := by decide +kernel
theorem dX10_goneNow_38 : decode cX10_goneNow 38 = .ok (.ireturn, 1) := by decide +kernel
noncomputable def F10_goneNow_b29 (kh : Int32 → Int32 → Option (Int32)) (mm : Mem) (a2 : Int32) (s0 : Int32) (s1 : Int32) : Option (Int32) :=
  kh (s0 ||| s1) (a2 + (1 : Int32))
noncomputable def F10_goneNow_p4 (kh : Int32 → Int32 → Option (Int32)) (mm : Mem) (a1 : Int32) (a2 : Int32) : Option (Int32) :=
  (if (mm 0 9) ≤ a2 then some a1 else (ck a2 8 (if (mm 15 a2.toNatClampNeg) = (0 : Int32) then (F10_goneNow_b29 kh mm) a2 a1 (0 : Int32) else (F10_goneNow_b29 kh mm) a2 a1 ((1 : Int32) <<< (a2 &&& (31 : Int32))))))
noncomputable def F10_goneNow_h4 (mm : Mem) : Nat → Int32 → Int32 → Option (Int32)
  | 0, _, _ => none
  | n + 1, a1, a2 => F10_goneNow_p4 (F10_goneNow_h4 mm n) mm a1 a2
noncomputable def F10_goneNow (mm : Mem) : Option (Int32) :=
  (F10_goneNow_h4 mm FU) (0 : Int32) (0 : Int32)
set_option maxHeartbeats 4000000 in
set_option maxRecDepth 100000 in
theorem kX10_goneNow (l : Launch) (g : GG) (mc mm : Mem) (q : Int32) (hF : F10_goneNow mm = some q) : KI l yX10_goneNow cX10_goneNow 3 .int 0 0 g [.ref (g.1 108)] mc mm q (mc, mm) := by
  intro sz
  refine x_start (Qc := fun z => QI g z q (mc, mm)) (by decide +kernel) (Nat.le_of_ble_eq_true rfl) ?_ sz
  intro p e s m args below meth c ls Z hr hlk hP hl
  have hx := Z.1.1
  have hb := Z.1.2.1
  have hown := Z.1.2.2.2.1
  have hts := Z.1.2.2.2.2
  have hS : va_S (AA g s.heap.size) s.heap s.heap [] := va_S.rf
  have hl : lv_has ls 3 [(0, .ref (g.1 108))] := hl
  unfold F10_goneNow at hF
  have hL4 : ∀ n : Nat, ∀ (a1 : Int32) (a2 : Int32), F10_goneNow_h4 mm n a1 a2 = some q → ∀ (H : Heap) (locs : List Loc) (ls : Array Slot), lv_has ls 3 [(0, .ref (g.1 108)), (1, .int a1), (2, .int a2)] → va_P g.2.2.1 vwCl (wL g mc mm) H → va_S (AA g s.heap.size) s.heap H locs → W p l e { frames := 0, cells := 0, slots := 0, locals := 0 } s m args below meth c H locs 0 0 (MQ below (QI g s.heap.size q (mc, mm)) args s 0 0 (AA g s.heap.size)) (F0 m 4 ls []) := by
    intro n
    induction n with
    | zero => intro a1 a2 hF H locs ls hl hP hS; exact absurd hF (fun z => nomatch (show (none : Option _) = some q from z))
    | succ n ih =>
      generalize hkh : F10_goneNow_h4 mm n = kh at ih
      have hb29 : ∀ (a2 : Int32) (s0 : Int32) (s1 : Int32), F10_goneNow_b29 kh mm a2 s0 s1 = some q → ∀ (H : Heap) (locs : List Loc) (ls : Array Slot), lv_has ls 3 [(0, .ref (g.1 108)), (2, .int a2)] → va_P g.2.2.1 vwCl (wL g mc mm) H → va_S (AA g s.heap.size) s.heap H locs → W p l e { frames := 0, cells := 0, slots := 0, locals := 0 } s m args below meth c H locs 0 0 (MQ below (QI g s.heap.size q (mc, mm)) args s 0 0 (AA g s.heap.size)) (F0 m 29 ls [.int s1, .int s0]) := by
        intro a2 s0 s1 hF H locs ls hl hP hS
        unfold F10_goneNow_b29 at hF
        refine lv_ior hx hb dX10_goneNow_29 ?_
        refine lv_istore_n (lv' := [(1, .int (s0 ||| s1)), (0, .ref (g.1 108)), (2, .int a2)]) hx hb dX10_goneNow_30 rfl hl (Nat.le_of_ble_eq_true rfl) rfl (fun ls hl => ?_)
        refine lv_iinc (lv' := [(2, .int (a2 + (1 : Int32))), (1, .int (s0 ||| s1)), (0, .ref (g.1 108))]) (v := (a2 + (1 : Int32))) hx hb dX10_goneNow_31 hl (k := 2) rfl (io_1 _) (Nat.le_of_ble_eq_true rfl) rfl (fun ls hl => ?_)
        refine lv_goto (tgt := 4) hx hb dX10_goneNow_34 rfl ?_
        exact ih _ _ hF _ _ _ (lv_sub hl [2, 1, 0] rfl) hP hS
      intro a1 a2 hF H locs ls hl hP hS
      have hF : F10_goneNow_p4 (F10_goneNow_h4 mm n) mm a1 a2 = some q := hF
      rw [hkh] at hF
      unfold F10_goneNow_p4 at hF
      refine lv_iload_n hx hb dX10_goneNow_4 rfl (lv_at hl 2 rfl) ?_
      refine lv_aload_n hx hb dX10_goneNow_5 rfl (lv_at hl 0 rfl) ?_
      refine gf10_9 Z hP wd_15_5 dX10_goneNow_6 ?_
      refine lv_icmp_ge (tgt := 37) hx hb dX10_goneNow_9 rfl (fun hc => ?_) (fun hc => ?_)
      · have hF := (if_pos hc).symm.trans hF
        refine lv_iload_n hx hb dX10_goneNow_37 rfl (lv_at hl 1 rfl) ?_
        exact ret_I Z hr hlk hP hS hF dX10_goneNow_38
      · have hF := (if_neg hc).symm.trans hF
        refine lv_iload_n hx hb dX10_goneNow_12 rfl (lv_at hl 1 rfl) ?_
        refine lv_aload_n hx hb dX10_goneNow_13 rfl (lv_at hl 0 rfl) ?_
        refine gf10_21 Z hP wd_6_18 dX10_goneNow_14 ?_
        refine lv_iload_n hx hb dX10_goneNow_17 rfl (lv_at hl 2 rfl) ?_
        obtain ⟨hi2, hF⟩ := ck_ok hF
        refine rMz_ld Z hP 8 15 (by decide +kernel) hi2 dX10_goneNow_18 ?_
        refine lv_if_eq (tgt := 28) hx hb dX10_goneNow_19 rfl (fun hc => ?_) (fun hc => ?_)
        · have hF := (if_pos hc).symm.trans hF
          refine lv_iconst (v := (0 : Int32)) hx hb dX10_goneNow_28 ic_0 ?_
          exact hb29 _ _ _ hF _ _ _ (lv_sub hl [0, 2] rfl) hP hS
        · have hF := (if_neg hc).symm.trans hF
          refine lv_iconst (v := (1 : Int32)) hx hb dX10_goneNow_22 ic_1 ?_
          refine lv_iload_n hx hb dX10_goneNow_23 rfl (lv_at hl 2 rfl) ?_
          refine lv_ishl hx hb dX10_goneNow_24 ?_
          refine lv_goto (tgt := 29) hx hb dX10_goneNow_25 rfl ?_
          exact hb29 _ _ _ hF _ _ _ (lv_sub hl [0, 2] rfl) hP hS
  refine lv_iconst (v := (0 : Int32)) hx hb dX10_goneNow_0 ic_0 ?_
  refine lv_istore_n (lv' := [(1, .int (0 : Int32)), (0, .ref (g.1 108))]) hx hb dX10_goneNow_1 rfl hl (Nat.le_of_ble_eq_true rfl) rfl (fun ls hl => ?_)
  refine lv_iconst (v := (0 : Int32)) hx hb dX10_goneNow_2 ic_0 ?_
  refine lv_istore_n (lv' := [(2, .int (0 : Int32)), (1, .int (0 : Int32)), (0, .ref (g.1 108))]) hx hb dX10_goneNow_3 rfl hl (Nat.le_of_ble_eq_true rfl) rfl (fun ls hl => ?_)
  exact (hL4 FU) _ _ hF _ _ _ (lv_sub hl [2, 1, 0] rfl) hP hS
theorem xX10_goneNow {p : Program} {l : Launch} {e : Env} {R : Room} {s : State} {m : MethodId} {args : Array Value} {below : List Frame} {meth : Method} {c : Code} {H : Heap} {locs : List Loc} {Q : State → Prop} {cc : ByteArray} {nL : Nat} {own : String} {g : GG} {pc index : Nat} {ls : Array Slot} {rest : List Value} {mc mm : Mem} (Z : ZZ p s m args c cc nL own g) (hP : va_P g.2.2.1 vwCl (wL g mc mm) H) (hS : va_S (AA g s.heap.size) s.heap H locs) {q : Int32} (hq : F10_goneNow mm = some q) (hlk : Cond.methodLink own index yX10_goneNow ∈ wsL_law) (hsz : ls.size = nL) (hro : (rest.map fun v => v.category).sum ≤ 8) (hR : 0 + 1 ≤ R.frames ∧ 8 + (3 + 11) + 0 ≤ R.locals) (hdg : decode cc pc = .ok (.invokevirtual index, 3)) (kk : ∀ (H : Heap) (locs : List Loc), va_P g.2.2.1 vwCl (wL g mc mm) H → va_S (AA g s.heap.size) s.heap H locs → W p l e R s m args below meth c H locs 0 0 Q (F0 m (pc + 3) ls (.int q :: rest))) : W p l e R s m args below meth c H locs 0 0 Q (F0 m pc ls (.ref (g.1 108) :: rest)) :=
  x_VI Z hP hS (kX10_goneNow l g mc mm q hq) (mO) (ci := 10) (by decide) rfl rfl mf_X10_goneNow mv_X10_goneNow hlk rfl rfl hsz hro hR hdg kk
theorem dX10_gone_0 : decode cX10_gone 0 = .ok (.aload_n 0, 1) := by decide +kernel
theorem dX10_gone_1 : decode cX10_gone 1 = .ok (.invokevirtual 236, 3) := by decide +kernel
theorem dX10_gone_4 : decode cX10_gone 4 = .ok (.aload_n 0, 1) := by decide +kernel
theorem dX10_gone_5 : decode cX10_gone 5 = .ok (.invokevirtual 253, 3) := by decide +kernel
theorem dX10_gone_8 : decode cX10_gone 8 = .ok (.ireturn, 1) := by decide +kernel
noncomputable def F10_gone (mm : Mem) : Option (Int32 × Mem) :=
  ((F10_find mm).bind (fun q3 => ((F10_goneNow q3).bind (fun q4 => (some (q4, q3))))))
set_option maxHeartbeats 4000000 in
set_option maxRecDepth 100000 in
theorem kX10_gone (l : Launch) (g : GG) (mc mm : Mem) (q : Int32 × Mem) (hF : F10_gone mm = some q) : KI l yX10_gone cX10_gone 1 .int 7 159 g [.ref (g.1 108)] mc mm q.1 (mc, q.2) := by
  intro sz
  refine x_start (Qc := fun z => QI g z q.1 (mc, q.2)) (by decide +kernel) (Nat.le_of_ble_eq_true rfl) ?_ sz
  intro p e s m args below meth c ls Z hr hlk hP hl
  have hx := Z.1.1
  have hb := Z.1.2.1
  have hown := Z.1.2.2.2.1
  have hts := Z.1.2.2.2.2
  have hS : va_S (AA g s.heap.size) s.heap s.heap [] := va_S.rf
  have hl : lv_has ls 1 [(0, .ref (g.1 108))] := hl
  unfold F10_gone at hF
  refine lv_aload_n hx hb dX10_gone_0 rfl (lv_at hl 0 rfl) ?_
  obtain ⟨q3, hq3, hF⟩ := bd_ok hF
  refine xX10_find Z hP hS hq3 wd_22_5 hl.1 (Nat.le_of_ble_eq_true rfl) ⟨Nat.le_of_ble_eq_true rfl, Nat.le_of_ble_eq_true rfl⟩ dX10_gone_1 (fun H locs hP hS => ?_)
  refine lv_aload_n hx hb dX10_gone_4 rfl (lv_at hl 0 rfl) ?_
  obtain ⟨q4, hq4, hF⟩ := bd_ok hF
  refine xX10_goneNow Z hP hS hq4 wd_26_18 hl.1 (Nat.le_of_ble_eq_true rfl) ⟨Nat.le_of_ble_eq_true rfl, Nat.le_of_ble_eq_true rfl⟩ dX10_gone_5 (fun H locs hP hS => ?_)
  exact ret_IWM Z hr hlk hP hS hF dX10_gone_8
theorem xX10_gone {p : Program} {l : Launch} {e : Env} {R : Room} {s : State} {m : MethodId} {args : Array Value} {below : List Frame} {meth : Method} {c : Code} {H : Heap} {locs : List Loc} {Q : State → Prop} {cc : ByteArray} {nL : Nat} {own : String} {g : GG} {pc index : Nat} {ls : Array Slot} {rest : List Value} {mc mm : Mem} (Z : ZZ p s m args c cc nL own g) (hP : va_P g.2.2.1 vwCl (wL g mc mm) H) (hS : va_S (AA g s.heap.size) s.heap H locs) {q : Int32 × Mem} (hq : F10_gone mm = some q) (hlk : Cond.methodLink own index yX10_gone ∈ wsL_law) (hsz : ls.size = nL) (hro : (rest.map fun v => v.category).sum ≤ 8) (hR : 7 + 1 ≤ R.frames ∧ 8 + (1 + 11) + 159 ≤ R.locals) (hdg : decode cc pc = .ok (.invokevirtual index, 3)) (kk : ∀ (H : Heap) (locs : List Loc), va_P g.2.2.1 vwCl (wL g mc q.2) H → va_S (AA g s.heap.size) s.heap H locs → W p l e R s m args below meth c H locs 0 0 Q (F0 m (pc + 3) ls (.int q.1 :: rest))) : W p l e R s m args below meth c H locs 0 0 Q (F0 m pc ls (.ref (g.1 108) :: rest)) :=
  x_VI Z hP hS (kX10_gone l g mc mm q hq) (mO) (ci := 10) (by decide) rfl rfl mf_X10_gone mv_X10_gone hlk rfl rfl hsz hro hR hdg kk
theorem dX10_babelBy_0 : decode cX10_babelBy 0 = .ok (.iconst 0, 1) := by decide +kernel
theorem dX10_babelBy_1 : decode cX10_babelBy 1 = .ok (.istore_n 2, 1) := by decide +kernel
theorem dX10_babelBy_2 : decode cX10_babelBy 2 = .ok (.iload_n 2, 1) := by decide +kernel
theorem dX10_babelBy_3 : decode cX10_babelBy 3 = .ok (.bipush 40, 2) := by decide +kernel
theorem dX10_babelBy_5 : decode cX10_babelBy 5 = .ok (.if_icmp .ge 104, 3) := by decide +kernel
theorem dX10_babelBy_8 : decode cX10_babelBy 8 = .ok (.iconst 0, 1) := by decide +kernel
theorem dX10_babelBy_9 : decode cX10_babelBy 9 = .ok (.istore_n 3, 1) := by decide +kernel
theorem dX10_babelBy_10 : decode cX10_babelBy 10 = .ok (.iload_n 3, 1) := by decide +kernel
theorem dX10_babelBy_11 : decode cX10_babelBy 11 = .ok (.aload_n 0, 1) := by decide +kernel
theorem dX10_babelBy_12 : decode cX10_babelBy 12 = .ok (.getfield 120, 3) := by decide +kernel
theorem dX10_babelBy_15 : decode cX10_babelBy 15 = .ok (.if_icmp .ge 88, 3) := by decide +kernel
theorem dX10_babelBy_18 : decode cX10_babelBy 18 = .ok (.iconst 0, 1) := by decide +kernel
theorem dX10_babelBy_19 : decode cX10_babelBy 19 = .ok (.istore 4, 2) := by decide +kernel
theorem dX10_babelBy_21 : decode cX10_babelBy 21 = .ok (.iconst 0, 1) := by decide +kernel
theorem dX10_babelBy_22 : decode cX10_babelBy 22 = .ok (.istore 5, 2) := by decide +kernel
theorem dX10_babelBy_24 : decode cX10_babelBy 24 = .ok (.iload 5, 2) := by decide +kernel
theorem dX10_babelBy_26 : decode cX10_babelBy 26 = .ok (.aload_n 0, 1) := by decide +kernel
theorem dX10_babelBy_27 : decode cX10_babelBy 27 = .ok (.getfield 134, 3) := by decide +kernel
theorem dX10_babelBy_30 : decode cX10_babelBy 30 = .ok (.if_icmp .ge 51, 3) := by decide +kernel
theorem dX10_babelBy_33 : decode cX10_babelBy 33 = .ok (.iload 4, 2) := by decide +kernel
theorem dX10_babelBy_35 : decode cX10_babelBy 35 = .ok (.aload_n 0, 1) := by decide +kernel
theorem dX10_babelBy_36 : decode cX10_babelBy 36 = .ok (.getfield 65, 3) := by decide +kernel
theorem dX10_babelBy_39 : decode cX10_babelBy 39 = .ok (.bipush 8, 2) := by decide +kernel
theorem dX10_babelBy_41 : decode cX10_babelBy 41 = .ok (.iload_n 2, 1) := by decide +kernel
theorem dX10_babelBy_42 : decode cX10_babelBy 42 = .ok (.imul, 1) := by decide +kernel
theorem dX10_babelBy_43 : decode cX10_babelBy 43 = .ok (.iload 5, 2) := by decide +kernel
theorem dX10_babelBy_45 : decode cX10_babelBy 45 = .ok (.iadd, 1) := by decide +kernel
theorem dX10_babelBy_46 : decode cX10_babelBy 46 = .ok (.iaload, 1) := by decide +kernel
theorem dX10_babelBy_47 : decode cX10_babelBy 47 = .ok (.iconst 1, 1) := by decide +kernel
theorem dX10_babelBy_48 : decode cX10_babelBy 48 = .ok (.if_icmp .ne 23, 3) := by decide +kernel
theorem dX10_babelBy_51 : decode cX10_babelBy 51 = .ok (.aload_n 0, 1) := by decide +kernel
theorem dX10_babelBy_52 : decode cX10_babelBy 52 = .ok (.getfield 56, 3) := by decide +kernel
theorem dX10_babelBy_55 : decode cX10_babelBy 55 = .ok (.bipush 8, 2) := by decide +kernel
theorem dX10_babelBy_57 : decode cX10_babelBy 57 = .ok (.iload_n 2, 1) := by decide +kernel
theorem dX10_babelBy_58 : decode cX10_babelBy 58 = .ok (.imul, 1) := by decide +kernel
theorem dX10_babelBy_59 : decode cX10_babelBy 59 = .ok (.iload 5, 2) := by decide +kernel
theorem dX10_babelBy_61 : decode cX10_babelBy 61 = .ok (.iadd, 1) := by decide +kernel
theorem dX10_babelBy_62 : decode cX10_babelBy 62 = .ok (.iaload, 1) := by decide +kernel
theorem dX10_babelBy_63 : decode cX10_babelBy 63 = .ok (.iload_n 3, 1) := by decide +kernel
theorem dX10_babelBy_64 : decode cX10_babelBy 64 = .ok (.if_icmp .ne 7, 3) := by decide +kernel
theorem dX10_babelBy_67 : decode cX10_babelBy 67 = .ok (.iconst 1, 1) := by decide +kernel
theorem dX10_babelBy_68 : decode cX10_babelBy 68 = .ok (.goto 4, 3) := by decide +kernel
theorem dX10_babelBy_71 : decode cX10_babelBy 71 = .ok (.iconst 0, 1) := by decide +kernel
theorem dX10_babelBy_72 : decode cX10_babelBy 72 = .ok (.iadd, 1) := by decide +kernel
theorem dX10_babelBy_73 : decode cX10_babelBy 73 = .ok (.istore 4, 2) := by decide +kernel
theorem dX10_babelBy_75 : decode cX10_babelBy 75 = .ok (.iinc 5 1, 3) := by decide +kernel
theorem dX10_babelBy_78 : decode cX10_babelBy 78 = .ok (.goto (-54), 3) := by decide +kernel
theorem dX10_babelBy_81 : decode cX10_babelBy 81 = .ok (.iload 4, 2) := by decide +kernel
theorem dX10_babelBy_83 : decode cX10_babelBy 83 = .ok (.iconst 1, 1) := by decide +kernel
theorem dX10_babelBy_84 : decode cX10_babelBy 84 = .ok (.if_icmp .le 13, 3) := by decide +kernel
theorem dX10_babelBy_87 : decode cX10_babelBy 87 = .ok (.iload_n 1, 1) := by decide +kernel
theorem dX10_babelBy_88 : decode cX10_babelBy 88 = .ok (.ifCond .ne 7, 3) := by decide +kernel
theorem dX10_babelBy_91 : decode cX10_babelBy 91 = .ok (.iload_n 2, 1) := by decide +kernel
theorem dX10_babelBy_92 : decode cX10_babelBy 92 = .ok (.goto 4, 3) := by decide +kernel
theorem dX10_babelBy_95 : decode cX10_babelBy 95 = .ok (.iload_n 3, 1) := by decide +kernel
theorem dX10_babelBy_96 : decode cX10_babelBy 96 = .ok (.ireturn, 1) := by decide +kernel
theorem dX10_babelBy_97 : decode cX10_babelBy 97 = .ok (.iinc 3 1, 3) := by decide +kernel
theorem dX10_babelBy_100 : decode cX10_babelBy 100 = .ok (.goto (-90), 3) := by decide +kernel
theorem dX10_babelBy_103 : decode cX10_babelBy 103 = .ok (.iinc 2 1, 3) := by decide +kernel
theorem dX10_babelBy_106 : decode cX10_babelBy 106 = .ok (.goto (-104), 3) := by decide +kernel
theorem dX10_babelBy_109 : decode cX10_babelBy 109 = .ok (.iconst (-1), 1) := by decide +kernel
theorem dX10_babelBy_110 : decode cX10_babelBy 110 = .ok (.ireturn, 1) := by decide +kernel
noncomputable def F10_babelBy_b87 (v1 : Int32) (mm : Mem) (a2 : Int32) (a3 : Int32) : Option (Int32) :=
  (if v1 = (0 : Int32) then some a2 else some a3)
noncomputable def F10_babelBy_b103 (kh : Int32 → Option (Int32)) (kx87 : Int32 → Int32 → Option (Int32)) (v1 : Int32) (mm : Mem) (a2 : Int32) : Option (Int32) :=
  kh (a2 + (1 : Int32))
noncomputable def F10_babelBy_b81 (kh : Int32 → Int32 → Option (Int32)) (kx87 : Int32 → Int32 → Option (Int32)) (kx103 : Int32 → Option (Int32)) (v1 : Int32) (mm : Mem) (a2 : Int32) (a3 : Int32) (a4 : Int32) : Option (Int32) :=
  (if a4 ≤ (1 : Int32) then kh a2 (a3 + (1 : Int32)) else kx87 a2 a3)
noncomputable def F10_babelBy_b72 (kh : Int32 → Int32 → Int32 → Int32 → Option (Int32)) (kx81 : Int32 → Int32 → Int32 → Option (Int32)) (v1 : Int32) (mm : Mem) (a2 : Int32) (a3 : Int32) (a5 : Int32) (s0 : Int32) (s1 : Int32) : Option (Int32) :=
  kh a2 a3 (s0 + s1) (a5 + (1 : Int32))
noncomputable def F10_babelBy_b71 (kh : Int32 → Int32 → Int32 → Int32 → Option (Int32)) (kx81 : Int32 → Int32 → Int32 → Option (Int32)) (v1 : Int32) (mm : Mem) (a2 : Int32) (a3 : Int32) (a5 : Int32) (s0 : Int32) : Option (Int32) :=
  (F10_babelBy_b72 kh kx81 v1 mm) a2 a3 a5 s0 (0 : Int32)
noncomputable def F10_babelBy_p24 (kh : Int32 → Int32 → Int32 → Int32 → Option (Int32)) (kx81 : Int32 → Int32 → Int32 → Option (Int32)) (v1 : Int32) (mm : Mem) (a2 : Int32) (a3 : Int32) (a4 : Int32) (a5 : Int32) : Option (Int32) :=
  (if (mm 0 9) ≤ a5 then kx81 a2 a3 a4 else (ck (((8 : Int32) * a2) + a5) 320 (if (mm 19 (((8 : Int32) * a2) + a5).toNatClampNeg) = (1 : Int32) then (ck (((8 : Int32) * a2) + a5) 320 (if (mm 16 (((8 : Int32) * a2) + a5).toNatClampNeg) = a3 then (F10_babelBy_b72 kh kx81 v1 mm) a2 a3 a5 a4 (1 : Int32) else (F10_babelBy_b71 kh kx81 v1 mm) a2 a3 a5 a4)) else (F10_babelBy_b71 kh kx81 v1 mm) a2 a3 a5 a4)))
noncomputable def F10_babelBy_h24 (kx81 : Int32 → Int32 → Int32 → Option (Int32)) (v1 : Int32) (mm : Mem) : Nat → Int32 → Int32 → Int32 → Int32 → Option (Int32)
  | 0, _, _, _, _ => none
  | n + 1, a2, a3, a4, a5 => F10_babelBy_p24 (F10_babelBy_h24 kx81 v1 mm n) kx81 v1 mm a2 a3 a4 a5
noncomputable def F10_babelBy_p10 (kh : Int32 → Int32 → Option (Int32)) (kx87 : Int32 → Int32 → Option (Int32)) (kx103 : Int32 → Option (Int32)) (v1 : Int32) (mm : Mem) (a2 : Int32) (a3 : Int32) : Option (Int32) :=
  (if (mm 0 7) ≤ a3 then kx103 a2 else (F10_babelBy_h24 (F10_babelBy_b81 kh kx87 kx103 v1 mm) v1 mm FU) a2 a3 (0 : Int32) (0 : Int32))
noncomputable def F10_babelBy_h10 (kx87 : Int32 → Int32 → Option (Int32)) (kx103 : Int32 → Option (Int32)) (v1 : Int32) (mm : Mem) : Nat → Int32 → Int32 → Option (Int32)
  | 0, _, _ => none
  | n + 1, a2, a3 => F10_babelBy_p10 (F10_babelBy_h10 kx87 kx103 v1 mm n) kx87 kx103 v1 mm a2 a3
noncomputable def F10_babelBy_p2 (kh : Int32 → Option (Int32)) (kx87 : Int32 → Int32 → Option (Int32)) (v1 : Int32) (mm : Mem) (a2 : Int32) : Option (Int32) :=
  (if (40 : Int32) ≤ a2 then some (-1 : Int32) else (F10_babelBy_h10 kx87 (F10_babelBy_b103 kh kx87 v1 mm) v1 mm FU) a2 (0 : Int32))
noncomputable def F10_babelBy_h2 (kx87 : Int32 → Int32 → Option (Int32)) (v1 : Int32) (mm : Mem) : Nat → Int32 → Option (Int32)
  | 0, _ => none
  | n + 1, a2 => F10_babelBy_p2 (F10_babelBy_h2 kx87 v1 mm n) kx87 v1 mm a2
noncomputable def F10_babelBy (v1 : Int32) (mm : Mem) : Option (Int32) :=
  (F10_babelBy_h2 (F10_babelBy_b87 v1 mm) v1 mm FU) (0 : Int32)
set_option maxHeartbeats 4000000 in
set_option maxRecDepth 100000 in
theorem kX10_babelBy (l : Launch) (g : GG) (v1 : Int32) (mc mm : Mem) (q : Int32) (hF : F10_babelBy v1 mm = some q) : KI l yX10_babelBy cX10_babelBy 6 .int 0 0 g [.ref (g.1 108), .int v1] mc mm q (mc, mm) := by
  intro sz
  refine x_start (Qc := fun z => QI g z q (mc, mm)) (by decide +kernel) (Nat.le_of_ble_eq_true rfl) ?_ sz
  intro p e s m args below meth c ls Z hr hlk hP hl
  have hx := Z.1.1
  have hb := Z.1.2.1
  have hown := Z.1.2.2.2.1
  have hts := Z.1.2.2.2.2
  have hS : va_S (AA g s.heap.size) s.heap s.heap [] := va_S.rf
  have hl : lv_has ls 6 [(0, .ref (g.1 108)), (1, .int v1)] := hl
  unfold F10_babelBy at hF
  have hb87 : ∀ (a2 : Int32) (a3 : Int32), F10_babelBy_b87 v1 mm a2 a3 = some q → ∀ (H : Heap) (locs : List Loc) (ls : Array Slot), lv_has ls 6 [(1, .int v1), (2, .int a2), (3, .int a3)] → va_P g.2.2.1 vwCl (wL g mc mm) H → va_S (AA g s.heap.size) s.heap H locs → W p l e { frames := 0, cells := 0, slots := 0, locals := 0 } s m args below meth c H locs 0 0 (MQ below (QI g s.heap.size q (mc, mm)) args s 0 0 (AA g s.heap.size)) (F0 m 87 ls []) := by
    intro a2 a3 hF H locs ls hl hP hS
    unfold F10_babelBy_b87 at hF
    refine lv_iload_n hx hb dX10_babelBy_87 rfl (lv_at hl 0 rfl) ?_
    refine lv_if_ne (tgt := 95) hx hb dX10_babelBy_88 rfl (fun hc => ?_) (fun hc => ?_)
    · have hF := (if_neg hc).symm.trans hF
      refine lv_iload_n hx hb dX10_babelBy_95 rfl (lv_at hl 2 rfl) ?_
      exact ret_I Z hr hlk hP hS hF dX10_babelBy_96
    · have hF := (if_pos hc).symm.trans hF
      refine lv_iload_n hx hb dX10_babelBy_91 rfl (lv_at hl 1 rfl) ?_
      refine lv_goto (tgt := 96) hx hb dX10_babelBy_92 rfl ?_
      exact ret_I Z hr hlk hP hS hF dX10_babelBy_96
  have hL2 : ∀ (kx87 : Int32 → Int32 → Option (Int32)), (∀ (a2 : Int32) (a3 : Int32), kx87 a2 a3 = some q → ∀ (H : Heap) (locs : List Loc) (ls : Array Slot), lv_has ls 6 [(1, .int v1), (2, .int a2), (3, .int a3)] → va_P g.2.2.1 vwCl (wL g mc mm) H → va_S (AA g s.heap.size) s.heap H locs → W p l e { frames := 0, cells := 0, slots := 0, locals := 0 } s m args below meth c H locs 0 0 (MQ below (QI g s.heap.size q (mc, mm)) args s 0 0 (AA g s.heap.size)) (F0 m 87 ls [])) → ∀ n : Nat, ∀ (a2 : Int32), F10_babelBy_h2 kx87 v1 mm n a2 = some q → ∀ (H : Heap) (locs : List Loc) (ls : Array Slot), lv_has ls 6 [(0, .ref (g.1 108)), (1, .int v1), (2, .int a2)] → va_P g.2.2.1 vwCl (wL g mc mm) H → va_S (AA g s.heap.size) s.heap H locs → W p l e { frames := 0, cells := 0, slots := 0, locals := 0 } s m args below meth c H locs 0 0 (MQ below (QI g s.heap.size q (mc, mm)) args s 0 0 (AA g s.heap.size)) (F0 m 2 ls []) := by
    intro kx87 hx87 n
    induction n with
    | zero => intro a2 hF H locs ls hl hP hS; exact absurd hF (fun z => nomatch (show (none : Option _) = some q from z))
    | succ n ih =>
      generalize hkh : F10_babelBy_h2 kx87 v1 mm n = kh at ih
      have hb103 : ∀ (a2 : Int32), F10_babelBy_b103 kh kx87 v1 mm a2 = some q → ∀ (H : Heap) (locs : List Loc) (ls : Array Slot), lv_has ls 6 [(0, .ref (g.1 108)), (1, .int v1), (2, .int a2)] → va_P g.2.2.1 vwCl (wL g mc mm) H → va_S (AA g s.heap.size) s.heap H locs → W p l e { frames := 0, cells := 0, slots := 0, locals := 0 } s m args below meth c H locs 0 0 (MQ below (QI g s.heap.size q (mc, mm)) args s 0 0 (AA g s.heap.size)) (F0 m 103 ls []) := by
        intro a2 hF H locs ls hl hP hS
        unfold F10_babelBy_b103 at hF
        refine lv_iinc (lv' := [(2, .int (a2 + (1 : Int32))), (0, .ref (g.1 108)), (1, .int v1)]) (v := (a2 + (1 : Int32))) hx hb dX10_babelBy_103 hl (k := 2) rfl (io_1 _) (Nat.le_of_ble_eq_true rfl) rfl (fun ls hl => ?_)
        refine lv_goto (tgt := 2) hx hb dX10_babelBy_106 rfl ?_
        exact ih _ hF _ _ _ (lv_sub hl [1, 2, 0] rfl) hP hS
      have hL10 : ∀ (kx87 : Int32 → Int32 → Option (Int32)) (kx103 : Int32 → Option (Int32)), (∀ (a2 : Int32) (a3 : Int32), kx87 a2 a3 = some q → ∀ (H : Heap) (locs : List Loc) (ls : Array Slot), lv_has ls 6 [(1, .int v1), (2, .int a2), (3, .int a3)] → va_P g.2.2.1 vwCl (wL g mc mm) H → va_S (AA g s.heap.size) s.heap H locs → W p l e { frames := 0, cells := 0, slots := 0, locals := 0 } s m args below meth c H locs 0 0 (MQ below (QI g s.heap.size q (mc, mm)) args s 0 0 (AA g s.heap.size)) (F0 m 87 ls [])) → (∀ (a2 : Int32), kx103 a2 = some q → ∀ (H : Heap) (locs : List Loc) (ls : Array Slot), lv_has ls 6 [(0, .ref (g.1 108)), (1, .int v1), (2, .int a2)] → va_P g.2.2.1 vwCl (wL g mc mm) H → va_S (AA g s.heap.size) s.heap H locs → W p l e { frames := 0, cells := 0, slots := 0, locals := 0 } s m args below meth c H locs 0 0 (MQ below (QI g s.heap.size q (mc, mm)) args s 0 0 (AA g s.heap.size)) (F0 m 103 ls [])) → ∀ n : Nat, ∀ (a2 : Int32) (a3 : Int32), F10_babelBy_h10 kx87 kx103 v1 mm n a2 a3 = some q → ∀ (H : Heap) (locs : List Loc) (ls : Array Slot), lv_has ls 6 [(0, .ref (g.1 108)), (1, .int v1), (2, .int a2), (3, .int a3)] → va_P g.2.2.1 vwCl (wL g mc mm) H → va_S (AA g s.heap.size) s.heap H locs → W p l e { frames := 0, cells := 0, slots := 0, locals := 0 } s m args below meth c H locs 0 0 (MQ below (QI g s.heap.size q (mc, mm)) args s 0 0 (AA g s.heap.size)) (F0 m 10 ls []) := by
        intro kx87 kx103 hx87 hx103 n
        induction n with
        | zero => intro a2 a3 hF H locs ls hl hP hS; exact absurd hF (fun z => nomatch (show (none : Option _) = some q from z))
        | succ n ih =>
          generalize hkh : F10_babelBy_h10 kx87 kx103 v1 mm n = kh at ih
          have hb81 : ∀ (a2 : Int32) (a3 : Int32) (a4 : Int32), F10_babelBy_b81 kh kx87 kx103 v1 mm a2 a3 a4 = some q → ∀ (H : Heap) (locs : List Loc) (ls : Array Slot), lv_has ls 6 [(0, .ref (g.1 108)), (1, .int v1), (2, .int a2), (3, .int a3), (4, .int a4)] → va_P g.2.2.1 vwCl (wL g mc mm) H → va_S (AA g s.heap.size) s.heap H locs → W p l e { frames := 0, cells := 0, slots := 0, locals := 0 } s m args below meth c H locs 0 0 (MQ below (QI g s.heap.size q (mc, mm)) args s 0 0 (AA g s.heap.size)) (F0 m 81 ls []) := by
            intro a2 a3 a4 hF H locs ls hl hP hS
            unfold F10_babelBy_b81 at hF
            refine lv_iload hx hb dX10_babelBy_81 (lv_at hl 4 rfl) ?_
            refine lv_iconst (v := (1 : Int32)) hx hb dX10_babelBy_83 ic_1 ?_
            refine lv_icmp_le (tgt := 97) hx hb dX10_babelBy_84 rfl (fun hc => ?_) (fun hc => ?_)
            · have hF := (if_pos hc).symm.trans hF
              refine lv_iinc (lv' := [(3, .int (a3 + (1 : Int32))), (0, .ref (g.1 108)), (1, .int v1), (2, .int a2), (4, .int a4)]) (v := (a3 + (1 : Int32))) hx hb dX10_babelBy_97 hl (k := 3) rfl (io_1 _) (Nat.le_of_ble_eq_true rfl) rfl (fun ls hl => ?_)
              refine lv_goto (tgt := 10) hx hb dX10_babelBy_100 rfl ?_
              exact ih _ _ hF _ _ _ (lv_sub hl [1, 2, 3, 0] rfl) hP hS
            · have hF := (if_neg hc).symm.trans hF
              exact hx87 _ _ hF _ _ _ (lv_sub hl [1, 2, 3] rfl) hP hS
          have hL24 : ∀ (kx81 : Int32 → Int32 → Int32 → Option (Int32)), (∀ (a2 : Int32) (a3 : Int32) (a4 : Int32), kx81 a2 a3 a4 = some q → ∀ (H : Heap) (locs : List Loc) (ls : Array Slot), lv_has ls 6 [(0, .ref (g.1 108)), (1, .int v1), (2, .int a2), (3, .int a3), (4, .int a4)] → va_P g.2.2.1 vwCl (wL g mc mm) H → va_S (AA g s.heap.size) s.heap H locs → W p l e { frames := 0, cells := 0, slots := 0, locals := 0 } s m args below meth c H locs 0 0 (MQ below (QI g s.heap.size q (mc, mm)) args s 0 0 (AA g s.heap.size)) (F0 m 81 ls [])) → ∀ n : Nat, ∀ (a2 : Int32) (a3 : Int32) (a4 : Int32) (a5 : Int32), F10_babelBy_h24 kx81 v1 mm n a2 a3 a4 a5 = some q → ∀ (H : Heap) (locs : List Loc) (ls : Array Slot), lv_has ls 6 [(0, .ref (g.1 108)), (1, .int v1), (2, .int a2), (3, .int a3), (4, .int a4), (5, .int a5)] → va_P g.2.2.1 vwCl (wL g mc mm) H → va_S (AA g s.heap.size) s.heap H locs → W p l e { frames := 0, cells := 0, slots := 0, locals := 0 } s m args below meth c H locs 0 0 (MQ below (QI g s.heap.size q (mc, mm)) args s 0 0 (AA g s.heap.size)) (F0 m 24 ls []) := by
            intro kx81 hx81 n
            induction n with
            | zero => intro a2 a3 a4 a5 hF H locs ls hl hP hS; exact absurd hF (fun z => nomatch (show (none : Option _) = some q from z))
            | succ n ih =>
              generalize hkh : F10_babelBy_h24 kx81 v1 mm n = kh at ih
              have hb72 : ∀ (a2 : Int32) (a3 : Int32) (a5 : Int32) (s0 : Int32) (s1 : Int32), F10_babelBy_b72 kh kx81 v1 mm a2 a3 a5 s0 s1 = some q → ∀ (H : Heap) (locs : List Loc) (ls : Array Slot), lv_has ls 6 [(0, .ref (g.1 108)), (1, .int v1), (2, .int a2), (3, .int a3), (5, .int a5)] → va_P g.2.2.1 vwCl (wL g mc mm) H → va_S (AA g s.heap.size) s.heap H locs → W p l e { frames := 0, cells := 0, slots := 0, locals := 0 } s m args below meth c H locs 0 0 (MQ below (QI g s.heap.size q (mc, mm)) args s 0 0 (AA g s.heap.size)) (F0 m 72 ls [.int s1, .int s0]) := by
                intro a2 a3 a5 s0 s1 hF H locs ls hl hP hS
                unfold F10_babelBy_b72 at hF
                refine lv_iadd hx hb dX10_babelBy_72 ?_
                refine lv_istore (lv' := [(4, .int (s0 + s1)), (0, .ref (g.1 108)), (1, .int v1), (2, .int a2), (3, .int a3), (5, .int a5)]) hx hb dX10_babelBy_73 hl (Nat.le_of_ble_eq_true rfl) rfl (fun ls hl => ?_)
                refine lv_iinc (lv' := [(5, .int (a5 + (1 : Int32))), (4, .int (s0 + s1)), (0, .ref (g.1 108)), (1, .int v1), (2, .int a2), (3, .int a3)]) (v := (a5 + (1 : Int32))) hx hb dX10_babelBy_75 hl (k := 5) rfl (io_1 _) (Nat.le_of_ble_eq_true rfl) rfl (fun ls hl => ?_)
                refine lv_goto (tgt := 24) hx hb dX10_babelBy_78 rfl ?_
                exact ih _ _ _ _ hF _ _ _ (lv_sub hl [2, 3, 4, 5, 1, 0] rfl) hP hS
              have hb71 : ∀ (a2 : Int32) (a3 : Int32) (a5 : Int32) (s0 : Int32), F10_babelBy_b71 kh kx81 v1 mm a2 a3 a5 s0 = some q → ∀ (H : Heap) (locs : List Loc) (ls : Array Slot), lv_has ls 6 [(0, .ref (g.1 108)), (1, .int v1), (2, .int a2), (3, .int a3), (5, .int a5)] → va_P g.2.2.1 vwCl (wL g mc mm) H → va_S (AA g s.heap.size) s.heap H locs → W p l e { frames := 0, cells := 0, slots := 0, locals := 0 } s m args below meth c H locs 0 0 (MQ below (QI g s.heap.size q (mc, mm)) args s 0 0 (AA g s.heap.size)) (F0 m 71 ls [.int s0]) := by
                intro a2 a3 a5 s0 hF H locs ls hl hP hS
                unfold F10_babelBy_b71 at hF
                refine lv_iconst (v := (0 : Int32)) hx hb dX10_babelBy_71 ic_0 ?_
                exact hb72 _ _ _ _ _ hF _ _ _ (lv_sub hl [0, 1, 2, 3, 4] rfl) hP hS
              intro a2 a3 a4 a5 hF H locs ls hl hP hS
              have hF : F10_babelBy_p24 (F10_babelBy_h24 kx81 v1 mm n) kx81 v1 mm a2 a3 a4 a5 = some q := hF
              rw [hkh] at hF
              unfold F10_babelBy_p24 at hF
              refine lv_iload hx hb dX10_babelBy_24 (lv_at hl 5 rfl) ?_
              refine lv_aload_n hx hb dX10_babelBy_26 rfl (lv_at hl 0 rfl) ?_
              refine gf10_9 Z hP wd_15_5 dX10_babelBy_27 ?_
              refine lv_icmp_ge (tgt := 81) hx hb dX10_babelBy_30 rfl (fun hc => ?_) (fun hc => ?_)
              · have hF := (if_pos hc).symm.trans hF
                exact hx81 _ _ _ hF _ _ _ (lv_sub hl [0, 1, 2, 3, 4] rfl) hP hS
              · have hF := (if_neg hc).symm.trans hF
                refine lv_iload hx hb dX10_babelBy_33 (lv_at hl 4 rfl) ?_
                refine lv_aload_n hx hb dX10_babelBy_35 rfl (lv_at hl 0 rfl) ?_
                refine gf10_25 Z hP wd_6_22 dX10_babelBy_36 ?_
                refine lv_bipush (v := (8 : Int32)) hx hb dX10_babelBy_39 bp_8 ?_
                refine lv_iload_n hx hb dX10_babelBy_41 rfl (lv_at hl 2 rfl) ?_
                refine lv_imul hx hb dX10_babelBy_42 ?_
                refine lv_iload hx hb dX10_babelBy_43 (lv_at hl 5 rfl) ?_
                refine lv_iadd hx hb dX10_babelBy_45 ?_
                obtain ⟨hi3, hF⟩ := ck_ok hF
                refine rM_ld Z hP 320 19 (by decide +kernel) hi3 dX10_babelBy_46 ?_
                refine lv_iconst (v := (1 : Int32)) hx hb dX10_babelBy_47 ic_1 ?_
                refine lv_icmp_ne (tgt := 71) hx hb dX10_babelBy_48 rfl (fun hc => ?_) (fun hc => ?_)
                · have hF := (if_neg hc).symm.trans hF
                  exact hb71 _ _ _ _ hF _ _ _ (lv_sub hl [0, 1, 2, 3, 5] rfl) hP hS
                · have hF := (if_pos hc).symm.trans hF
                  refine lv_aload_n hx hb dX10_babelBy_51 rfl (lv_at hl 0 rfl) ?_
                  refine gf10_22 Z hP wd_6_19 dX10_babelBy_52 ?_
                  refine lv_bipush (v := (8 : Int32)) hx hb dX10_babelBy_55 bp_8 ?_
                  refine lv_iload_n hx hb dX10_babelBy_57 rfl (lv_at hl 2 rfl) ?_
                  refine lv_imul hx hb dX10_babelBy_58 ?_
                  refine lv_iload hx hb dX10_babelBy_59 (lv_at hl 5 rfl) ?_
                  refine lv_iadd hx hb dX10_babelBy_61 ?_
                  obtain ⟨hi4, hF⟩ := ck_ok hF
                  refine rM_ld Z hP 320 16 (by decide +kernel) hi4 dX10_babelBy_62 ?_
                  refine lv_iload_n hx hb dX10_babelBy_63 rfl (lv_at hl 3 rfl) ?_
                  refine lv_icmp_ne (tgt := 71) hx hb dX10_babelBy_64 rfl (fun hc => ?_) (fun hc => ?_)
                  · have hF := (if_neg hc).symm.trans hF
                    exact hb71 _ _ _ _ hF _ _ _ (lv_sub hl [0, 1, 2, 3, 5] rfl) hP hS
                  · have hF := (if_pos hc).symm.trans hF
                    refine lv_iconst (v := (1 : Int32)) hx hb dX10_babelBy_67 ic_1 ?_
                    refine lv_goto (tgt := 72) hx hb dX10_babelBy_68 rfl ?_
                    exact hb72 _ _ _ _ _ hF _ _ _ (lv_sub hl [0, 1, 2, 3, 5] rfl) hP hS
          intro a2 a3 hF H locs ls hl hP hS
          have hF : F10_babelBy_p10 (F10_babelBy_h10 kx87 kx103 v1 mm n) kx87 kx103 v1 mm a2 a3 = some q := hF
          rw [hkh] at hF
          unfold F10_babelBy_p10 at hF
          refine lv_iload_n hx hb dX10_babelBy_10 rfl (lv_at hl 3 rfl) ?_
          refine lv_aload_n hx hb dX10_babelBy_11 rfl (lv_at hl 0 rfl) ?_
          refine gf10_7 Z hP wd_14_19 dX10_babelBy_12 ?_
          refine lv_icmp_ge (tgt := 103) hx hb dX10_babelBy_15 rfl (fun hc => ?_) (fun hc => ?_)
          · have hF := (if_pos hc).symm.trans hF
            exact hx103 _ hF _ _ _ (lv_sub hl [0, 1, 2] rfl) hP hS
          · have hF := (if_neg hc).symm.trans hF
            refine lv_iconst (v := (0 : Int32)) hx hb dX10_babelBy_18 ic_0 ?_
            refine lv_istore (lv' := [(4, .int (0 : Int32)), (0, .ref (g.1 108)), (1, .int v1), (2, .int a2), (3, .int a3)]) hx hb dX10_babelBy_19 hl (Nat.le_of_ble_eq_true rfl) rfl (fun ls hl => ?_)
            refine lv_iconst (v := (0 : Int32)) hx hb dX10_babelBy_21 ic_0 ?_
            refine lv_istore (lv' := [(5, .int (0 : Int32)), (4, .int (0 : Int32)), (0, .ref (g.1 108)), (1, .int v1), (2, .int a2), (3, .int a3)]) hx hb dX10_babelBy_22 hl (Nat.le_of_ble_eq_true rfl) rfl (fun ls hl => ?_)
            exact (hL24 _ hb81 FU) _ _ _ _ hF _ _ _ (lv_sub hl [2, 3, 4, 5, 1, 0] rfl) hP hS
      intro a2 hF H locs ls hl hP hS
      have hF : F10_babelBy_p2 (F10_babelBy_h2 kx87 v1 mm n) kx87 v1 mm a2 = some q := hF
      rw [hkh] at hF
      unfold F10_babelBy_p2 at hF
      refine lv_iload_n hx hb dX10_babelBy_2 rfl (lv_at hl 2 rfl) ?_
      refine lv_bipush (v := (40 : Int32)) hx hb dX10_babelBy_3 bp_40 ?_
      refine lv_icmp_ge (tgt := 109) hx hb dX10_babelBy_5 rfl (fun hc => ?_) (fun hc => ?_)
      · have hF := (if_pos hc).symm.trans hF
        refine lv_iconst (v := (-1 : Int32)) hx hb dX10_babelBy_109 ic_m1 ?_
        exact ret_I Z hr hlk hP hS hF dX10_babelBy_110
      · have hF := (if_neg hc).symm.trans hF
        refine lv_iconst (v := (0 : Int32)) hx hb dX10_babelBy_8 ic_0 ?_
        refine lv_istore_n (lv' := [(3, .int (0 : Int32)), (0, .ref (g.1 108)), (1, .int v1), (2, .int a2)]) hx hb dX10_babelBy_9 rfl hl (Nat.le_of_ble_eq_true rfl) rfl (fun ls hl => ?_)
        exact (hL10 _ _ hx87 hb103 FU) _ _ hF _ _ _ (lv_sub hl [1, 2, 3, 0] rfl) hP hS
  refine lv_iconst (v := (0 : Int32)) hx hb dX10_babelBy_0 ic_0 ?_
  refine lv_istore_n (lv' := [(2, .int (0 : Int32)), (0, .ref (g.1 108)), (1, .int v1)]) hx hb dX10_babelBy_1 rfl hl (Nat.le_of_ble_eq_true rfl) rfl (fun ls hl => ?_)
  exact (hL2 _ hb87 FU) _ hF _ _ _ (lv_sub hl [1, 2, 0] rfl) hP hS
theorem xX10_babelBy {p : Program} {l : Launch} {e : Env} {R : Room} {s : State} {m : MethodId} {args : Array Value} {below : List Frame} {meth : Method} {c : Code} {H : Heap} {locs : List Loc} {Q : State → Prop} {cc : ByteArray} {nL : Nat} {own : String} {g : GG} {pc index : Nat} {ls : Array Slot} {rest : List Value} {mc mm : Mem} (Z : ZZ p s m args c cc nL own g) (hP : va_P g.2.2.1 vwCl (wL g mc mm) H) (hS : va_S (AA g s.heap.size) s.heap H locs) {v1 : Int32} {q : Int32} (hq : F10_babelBy v1 mm = some q) (hlk : Cond.methodLink own index yX10_babelBy ∈ wsL_law) (hsz : ls.size = nL) (hro : (rest.map fun v => v.category).sum ≤ 8) (hR : 0 + 1 ≤ R.frames ∧ 8 + (6 + 11) + 0 ≤ R.locals) (hdg : decode cc pc = .ok (.invokevirtual index, 3)) (kk : ∀ (H : Heap) (locs : List Loc), va_P g.2.2.1 vwCl (wL g mc mm) H → va_S (AA g s.heap.size) s.heap H locs → W p l e R s m args below meth c H locs 0 0 Q (F0 m (pc + 3) ls (.int q :: rest))) : W p l e R s m args below meth c H locs 0 0 Q (F0 m pc ls (.int v1 :: .ref (g.1 108) :: rest)) :=
  x_VI Z hP hS (kX10_babelBy l g v1 mc mm q hq) (mO) (ci := 10) (by decide) rfl rfl mf_X10_babelBy mv_X10_babelBy hlk rfl rfl hsz hro hR hdg kk
theorem dX10_babel_0 : decode cX10_babel 0 = .ok (.aload_n 0, 1) := by decide +kernel
theorem dX10_babel_1 : decode cX10_babel 1 = .ok (.invokevirtual 236, 3) := by decide +kernel
theorem dX10_babel_4 : decode cX10_babel 4 = .ok (.iload_n 1, 1) := by decide +kernel
theorem dX10_babel_5 : decode cX10_babel 5 = .ok (.invokestatic 111, 3) := by decide +kernel
theorem dX10_babel_8 : decode cX10_babel 8 = .ok (.ifCond .eq 11, 3) := by decide +kernel
theorem dX10_babel_11 : decode cX10_babel 11 = .ok (.aload_n 0, 1) := by decide +kernel
theorem dX10_babel_12 : decode cX10_babel 12 = .ok (.iload_n 1, 1) := by decide +kernel
theorem dX10_babel_13 : decode cX10_babel 13 = .ok (.invokevirtual 256, 3) := by decide +kernel
theorem dX10_babel_16 : decode cX10_babel 16 = .ok (.goto 5, 3) := by decide +kernel
theorem dX10_babel_19 : decode cX10_babel 19 = .ok (.bipush (-2), 2) := by decide +kernel
theorem dX10_babel_21 : decode cX10_babel 21 = .ok (.ireturn, 1) := by decide +kernel
noncomputable def F10_babel (v1 : Int32) (mm : Mem) : Option (Int32 × Mem) :=
  ((F10_find mm).bind (fun q4 => ((F10_isTwo v1).bind (fun q5 => (if q5 = (0 : Int32) then some ((-2 : Int32), q4) else ((F10_babelBy v1 q4).bind (fun q6 => (some (q6, q4)))))))))
set_option maxHeartbeats 4000000 in
set_option maxRecDepth 100000 in
theorem kX10_babel (l : Launch) (g : GG) (v1 : Int32) (mc mm : Mem) (q : Int32 × Mem) (hF : F10_babel v1 mm = some q) : KI l yX10_babel cX10_babel 2 .int 7 159 g [.ref (g.1 108), .int v1] mc mm q.1 (mc, q.2) := by
  intro sz
  refine x_start (Qc := fun z => QI g z q.1 (mc, q.2)) (by decide +kernel) (Nat.le_of_ble_eq_true rfl) ?_ sz
  intro p e s m args below meth c ls Z hr hlk hP hl
  have hx := Z.1.1
  have hb := Z.1.2.1
  have hown := Z.1.2.2.2.1
  have hts := Z.1.2.2.2.2
  have hS : va_S (AA g s.heap.size) s.heap s.heap [] := va_S.rf
  have hl : lv_has ls 2 [(0, .ref (g.1 108)), (1, .int v1)] := hl
  unfold F10_babel at hF
  refine lv_aload_n hx hb dX10_babel_0 rfl (lv_at hl 0 rfl) ?_
  obtain ⟨q4, hq4, hF⟩ := bd_ok hF
  refine xX10_find Z hP hS hq4 wd_22_5 hl.1 (Nat.le_of_ble_eq_true rfl) ⟨Nat.le_of_ble_eq_true rfl, Nat.le_of_ble_eq_true rfl⟩ dX10_babel_1 (fun H locs hP hS => ?_)
  refine lv_iload_n hx hb dX10_babel_4 rfl (lv_at hl 1 rfl) ?_
  obtain ⟨q5, hq5, hF⟩ := bd_ok hF
  refine xX10_isTwo Z hP hS hq5 wd_13_5 hl.1 (Nat.le_of_ble_eq_true rfl) ⟨Nat.le_of_ble_eq_true rfl, Nat.le_of_ble_eq_true rfl⟩ dX10_babel_5 (fun H locs hP hS => ?_)
  refine lv_if_eq (tgt := 19) hx hb dX10_babel_8 rfl (fun hc => ?_) (fun hc => ?_)
  · have hF := (if_pos hc).symm.trans hF
    refine lv_bipush (v := (-2 : Int32)) hx hb dX10_babel_19 bp_m2 ?_
    exact ret_IWM Z hr hlk hP hS hF dX10_babel_21
  · have hF := (if_neg hc).symm.trans hF
    refine lv_aload_n hx hb dX10_babel_11 rfl (lv_at hl 0 rfl) ?_
    refine lv_iload_n hx hb dX10_babel_12 rfl (lv_at hl 1 rfl) ?_
    obtain ⟨q6, hq6, hF⟩ := bd_ok hF
    refine xX10_babelBy Z hP hS hq6 wd_27_10 hl.1 (Nat.le_of_ble_eq_true rfl) ⟨Nat.le_of_ble_eq_true rfl, Nat.le_of_ble_eq_true rfl⟩ dX10_babel_13 (fun H locs hP hS => ?_)
    refine lv_goto (tgt := 21) hx hb dX10_babel_16 rfl ?_
    exact ret_IWM Z hr hlk hP hS hF dX10_babel_21
theorem xX10_babel {p : Program} {l : Launch} {e : Env} {R : Room} {s : State} {m : MethodId} {args : Array Value} {below : List Frame} {meth : Method} {c : Code} {H : Heap} {locs : List Loc} {Q : State → Prop} {cc : ByteArray} {nL : Nat} {own : String} {g : GG} {pc index : Nat} {ls : Array Slot} {rest : List Value} {mc mm : Mem} (Z : ZZ p s m args c cc nL own g) (hP : va_P g.2.2.1 vwCl (wL g mc mm) H) (hS : va_S (AA g s.heap.size) s.heap H locs) {v1 : Int32} {q : Int32 × Mem} (hq : F10_babel v1 mm = some q) (hlk : Cond.methodLink own index yX10_babel ∈ wsL_law) (hsz : ls.size = nL) (hro : (rest.map fun v => v.category).sum ≤ 8) (hR : 7 + 1 ≤ R.frames ∧ 8 + (2 + 11) + 159 ≤ R.locals) (hdg : decode cc pc = .ok (.invokevirtual index, 3)) (kk : ∀ (H : Heap) (locs : List Loc), va_P g.2.2.1 vwCl (wL g mc q.2) H → va_S (AA g s.heap.size) s.heap H locs → W p l e R s m args below meth c H locs 0 0 Q (F0 m (pc + 3) ls (.int q.1 :: rest))) : W p l e R s m args below meth c H locs 0 0 Q (F0 m pc ls (.int v1 :: .ref (g.1 108) :: rest)) :=
  x_VI Z hP hS (kX10_babel l g v1 mc mm q hq) (mO) (ci := 10) (by decide) rfl rfl mf_X10_babel mv_X10_babel hlk rfl rfl hsz hro hR hdg kk

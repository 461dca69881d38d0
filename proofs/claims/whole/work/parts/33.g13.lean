theorem dX9_ask_0 : decode cX9_ask 0 = .ok (.iload_n 1, 1) := by decide +kernel
theorem dX9_ask_1 : decode cX9_ask 1 = .ok (.aload_n 0, 1) := by decide +kernel
theorem dX9_ask_2 : decode cX9_ask 2 = .ok (.getfield 21, 3) := by decide +kernel
theorem dX9_ask_5 : decode cX9_ask 5 = .ok (.getfield 119, 3) := by decide +kernel
theorem dX9_ask_8 : decode cX9_ask 8 = .ok (.invokestatic 101, 3) := by decide +kernel
theorem dX9_ask_11 : decode cX9_ask 11 = .ok (.ifCond .ne 6, 3) := by decide +kernel
theorem dX9_ask_14 : decode cX9_ask 14 = .ok (.bipush (-2), 2) := by decide +kernel
theorem dX9_ask_16 : decode cX9_ask 16 = .ok (.ireturn, 1) := by decide +kernel
theorem dX9_ask_17 : decode cX9_ask 17 = .ok (.aload_n 0, 1) := by decide +kernel
theorem dX9_ask_18 : decode cX9_ask 18 = .ok (.invokevirtual 173, 3) := by decide +kernel
theorem dX9_ask_21 : decode cX9_ask 21 = .ok (.aload_n 0, 1) := by decide +kernel
theorem dX9_ask_22 : decode cX9_ask 22 = .ok (.iload_n 1, 1) := by decide +kernel
theorem dX9_ask_23 : decode cX9_ask 23 = .ok (.invokevirtual 243, 3) := by decide +kernel
theorem dX9_ask_26 : decode cX9_ask 26 = .ok (.istore_n 2, 1) := by decide +kernel
theorem dX9_ask_27 : decode cX9_ask 27 = .ok (.aload_n 0, 1) := by decide +kernel
theorem dX9_ask_28 : decode cX9_ask 28 = .ok (.iload_n 1, 1) := by decide +kernel
theorem dX9_ask_29 : decode cX9_ask 29 = .ok (.iload_n 2, 1) := by decide +kernel
theorem dX9_ask_30 : decode cX9_ask 30 = .ok (.invokevirtual 246, 3) := by decide +kernel
theorem dX9_ask_33 : decode cX9_ask 33 = .ok (.iconst (-1), 1) := by decide +kernel
theorem dX9_ask_34 : decode cX9_ask 34 = .ok (.istore_n 3, 1) := by decide +kernel
theorem dX9_ask_35 : decode cX9_ask 35 = .ok (.iconst (-1), 1) := by decide +kernel
theorem dX9_ask_36 : decode cX9_ask 36 = .ok (.istore 4, 2) := by decide +kernel
theorem dX9_ask_38 : decode cX9_ask 38 = .ok (.iconst 0, 1) := by decide +kernel
theorem dX9_ask_39 : decode cX9_ask 39 = .ok (.istore 5, 2) := by decide +kernel
theorem dX9_ask_41 : decode cX9_ask 41 = .ok (.iload 5, 2) := by decide +kernel
theorem dX9_ask_43 : decode cX9_ask 43 = .ok (.bipush 40, 2) := by decide +kernel
theorem dX9_ask_45 : decode cX9_ask 45 = .ok (.if_icmp .ge 38, 3) := by decide +kernel
theorem dX9_ask_48 : decode cX9_ask 48 = .ok (.aload_n 0, 1) := by decide +kernel
theorem dX9_ask_49 : decode cX9_ask 49 = .ok (.iload_n 2, 1) := by decide +kernel
theorem dX9_ask_50 : decode cX9_ask 50 = .ok (.iload 5, 2) := by decide +kernel
theorem dX9_ask_52 : decode cX9_ask 52 = .ok (.invokevirtual 250, 3) := by decide +kernel
theorem dX9_ask_55 : decode cX9_ask 55 = .ok (.istore 6, 2) := by decide +kernel
theorem dX9_ask_57 : decode cX9_ask 57 = .ok (.iload 4, 2) := by decide +kernel
theorem dX9_ask_59 : decode cX9_ask 59 = .ok (.iconst (-1), 1) := by decide +kernel
theorem dX9_ask_60 : decode cX9_ask 60 = .ok (.if_icmp .eq 10, 3) := by decide +kernel
theorem dX9_ask_63 : decode cX9_ask 63 = .ok (.iload 6, 2) := by decide +kernel
theorem dX9_ask_65 : decode cX9_ask 65 = .ok (.iload 4, 2) := by decide +kernel
theorem dX9_ask_67 : decode cX9_ask 67 = .ok (.if_icmp .ge 10, 3) := by decide +kernel
theorem dX9_ask_70 : decode cX9_ask 70 = .ok (.iload 5, 2) := by decide +kernel
theorem dX9_ask_72 : decode cX9_ask 72 = .ok (.istore_n 3, 1) := by decide +kernel
theorem dX9_ask_73 : decode cX9_ask 73 = .ok (.iload 6, 2) := by decide +kernel
theorem dX9_ask_75 : decode cX9_ask 75 = .ok (.istore 4, 2) := by decide +kernel
theorem dX9_ask_77 : decode cX9_ask 77 = .ok (.iinc 5 1, 3) := by decide +kernel
theorem dX9_ask_80 : decode cX9_ask 80 = .ok (.goto (-39), 3) := by decide +kernel
theorem dX9_ask_83 : decode cX9_ask 83 = .ok (.iload_n 3, 1) := by decide +kernel
theorem dX9_ask_84 : decode cX9_ask 84 = .ok (.ireturn, 1) := by decide +kernel
noncomputable def F9_ask_b77 (kh : Int32 → Int32 → Int32 → Int32 → Mem → Option (Int32 × Mem)) (v1 : Int32) (a2 : Int32) (a3 : Int32) (a4 : Int32) (a5 : Int32) (M : Mem) : Option (Int32 × Mem) :=
  kh a2 a3 a4 (a5 + (1 : Int32)) M
noncomputable def F9_ask_b70 (kh : Int32 → Int32 → Int32 → Int32 → Mem → Option (Int32 × Mem)) (v1 : Int32) (a2 : Int32) (a5 : Int32) (a6 : Int32) (M : Mem) : Option (Int32 × Mem) :=
  (F9_ask_b77 kh v1) a2 a5 a6 a5 M
noncomputable def F9_ask_p41 (kh : Int32 → Int32 → Int32 → Int32 → Mem → Option (Int32 × Mem)) (v1 : Int32) (a2 : Int32) (a3 : Int32) (a4 : Int32) (a5 : Int32) (M : Mem) : Option (Int32 × Mem) :=
  (if (40 : Int32) ≤ a5 then some (a3, M) else ((F9_mostAlike a2 a5 M).bind (fun q6 => (if a4 = (-1 : Int32) then (F9_ask_b70 kh v1) a2 a5 q6.1 q6.2 else (if a4 ≤ q6.1 then (F9_ask_b77 kh v1) a2 a3 a4 a5 q6.2 else (F9_ask_b70 kh v1) a2 a5 q6.1 q6.2)))))
noncomputable def F9_ask_h41 (v1 : Int32) : Nat → Int32 → Int32 → Int32 → Int32 → Mem → Option (Int32 × Mem)
  | 0, _, _, _, _, _ => none
  | n + 1, a2, a3, a4, a5, M => F9_ask_p41 (F9_ask_h41 v1 n) v1 a2 a3 a4 a5 M
noncomputable def F9_ask (v1 : Int32) (mc : Mem) : Option (Int32 × Mem) :=
  ((F9_in v1 (mc 6 4)).bind (fun q7 => (if q7 = (0 : Int32) then some ((-2 : Int32), mc) else ((F9_refresh mc).bind (fun q8 => ((F9_heightsOf v1 q8).bind (fun q9 => ((F9_countInWell v1 q9.1 q9.2).bind (fun q10 => ((F9_ask_h41 v1 FU) q9.1 (-1 : Int32) (-1 : Int32) (0 : Int32) q10))))))))))
set_option maxHeartbeats 4000000 in
set_option maxRecDepth 100000 in
theorem kX9_ask (l : Launch) (g : GG) (v1 : Int32) (mc mm : Mem) (q : Int32 × Mem) (hF : F9_ask v1 mc = some q) : KI l yX9_ask cX9_ask 7 .int 4 105 g [.ref (g.1 0), .int v1] mc mm q.1 (q.2, mm) := by
  intro sz
  refine x_start (Qc := fun z => QI g z q.1 (q.2, mm)) (by decide +kernel) (Nat.le_of_ble_eq_true rfl) ?_ sz
  intro p e s m args below meth c ls Z hr hlk hP hl
  have hx := Z.1.1
  have hb := Z.1.2.1
  have hown := Z.1.2.2.2.1
  have hts := Z.1.2.2.2.2
  have hS : va_S (AA g s.heap.size) s.heap s.heap [] := va_S.rf
  have hl : lv_has ls 7 [(0, .ref (g.1 0)), (1, .int v1)] := hl
  unfold F9_ask at hF
  have hL41 : ∀ n : Nat, ∀ (a2 : Int32) (a3 : Int32) (a4 : Int32) (a5 : Int32) (M : Mem), F9_ask_h41 v1 n a2 a3 a4 a5 M = some q → ∀ (H : Heap) (locs : List Loc) (ls : Array Slot), lv_has ls 7 [(0, .ref (g.1 0)), (2, .int a2), (3, .int a3), (4, .int a4), (5, .int a5)] → va_P g.2.2.1 vwCl (wL g M mm) H → va_S (AA g s.heap.size) s.heap H locs → W p l e { frames := 4, cells := 0, slots := 0, locals := 105 } s m args below meth c H locs 0 0 (MQ below (QI g s.heap.size q.1 (q.2, mm)) args s 0 0 (AA g s.heap.size)) (F0 m 41 ls []) := by
    intro n
    induction n with
    | zero => intro a2 a3 a4 a5 M hF H locs ls hl hP hS; exact absurd hF (fun z => nomatch (show (none : Option _) = some q from z))
    | succ n ih =>
      generalize hkh : F9_ask_h41 v1 n = kh at ih
      have hb77 : ∀ (a2 : Int32) (a3 : Int32) (a4 : Int32) (a5 : Int32) (M : Mem), F9_ask_b77 kh v1 a2 a3 a4 a5 M = some q → ∀ (H : Heap) (locs : List Loc) (ls : Array Slot), lv_has ls 7 [(0, .ref (g.1 0)), (2, .int a2), (3, .int a3), (4, .int a4), (5, .int a5)] → va_P g.2.2.1 vwCl (wL g M mm) H → va_S (AA g s.heap.size) s.heap H locs → W p l e { frames := 4, cells := 0, slots := 0, locals := 105 } s m args below meth c H locs 0 0 (MQ below (QI g s.heap.size q.1 (q.2, mm)) args s 0 0 (AA g s.heap.size)) (F0 m 77 ls []) := by
        intro a2 a3 a4 a5 M hF H locs ls hl hP hS
        unfold F9_ask_b77 at hF
        refine lv_iinc (lv' := [(5, .int (a5 + (1 : Int32))), (0, .ref (g.1 0)), (2, .int a2), (3, .int a3), (4, .int a4)]) (v := (a5 + (1 : Int32))) hx hb dX9_ask_77 hl (k := 4) rfl (io_1 _) (Nat.le_of_ble_eq_true rfl) rfl (fun ls hl => ?_)
        refine lv_goto (tgt := 41) hx hb dX9_ask_80 rfl ?_
        exact ih _ _ _ _ _ hF _ _ _ (lv_sub hl [1, 2, 3, 4, 0] rfl) hP hS
      have hb70 : ∀ (a2 : Int32) (a5 : Int32) (a6 : Int32) (M : Mem), F9_ask_b70 kh v1 a2 a5 a6 M = some q → ∀ (H : Heap) (locs : List Loc) (ls : Array Slot), lv_has ls 7 [(0, .ref (g.1 0)), (2, .int a2), (5, .int a5), (6, .int a6)] → va_P g.2.2.1 vwCl (wL g M mm) H → va_S (AA g s.heap.size) s.heap H locs → W p l e { frames := 4, cells := 0, slots := 0, locals := 105 } s m args below meth c H locs 0 0 (MQ below (QI g s.heap.size q.1 (q.2, mm)) args s 0 0 (AA g s.heap.size)) (F0 m 70 ls []) := by
        intro a2 a5 a6 M hF H locs ls hl hP hS
        unfold F9_ask_b70 at hF
        refine lv_iload hx hb dX9_ask_70 (lv_at hl 2 rfl) ?_
        refine lv_istore_n (lv' := [(3, .int a5), (0, .ref (g.1 0)), (2, .int a2), (5, .int a5), (6, .int a6)]) hx hb dX9_ask_72 rfl hl (Nat.le_of_ble_eq_true rfl) rfl (fun ls hl => ?_)
        refine lv_iload hx hb dX9_ask_73 (lv_at hl 4 rfl) ?_
        refine lv_istore (lv' := [(4, .int a6), (3, .int a5), (0, .ref (g.1 0)), (2, .int a2), (5, .int a5), (6, .int a6)]) hx hb dX9_ask_75 hl (Nat.le_of_ble_eq_true rfl) rfl (fun ls hl => ?_)
        exact hb77 _ _ _ _ _ hF _ _ _ (lv_sub hl [2, 3, 1, 0, 4] rfl) hP hS
      intro a2 a3 a4 a5 M hF H locs ls hl hP hS
      have hF : F9_ask_p41 (F9_ask_h41 v1 n) v1 a2 a3 a4 a5 M = some q := hF
      rw [hkh] at hF
      unfold F9_ask_p41 at hF
      refine lv_iload hx hb dX9_ask_41 (lv_at hl 4 rfl) ?_
      refine lv_bipush (v := (40 : Int32)) hx hb dX9_ask_43 bp_40 ?_
      refine lv_icmp_ge (tgt := 83) hx hb dX9_ask_45 rfl (fun hc => ?_) (fun hc => ?_)
      · have hF := (if_pos hc).symm.trans hF
        refine lv_iload_n hx hb dX9_ask_83 rfl (lv_at hl 2 rfl) ?_
        exact ret_IWC Z hr hlk hP hS hF dX9_ask_84
      · have hF := (if_neg hc).symm.trans hF
        refine lv_aload_n hx hb dX9_ask_48 rfl (lv_at hl 0 rfl) ?_
        refine lv_iload_n hx hb dX9_ask_49 rfl (lv_at hl 1 rfl) ?_
        refine lv_iload hx hb dX9_ask_50 (lv_at hl 4 rfl) ?_
        obtain ⟨q6, hq6, hF⟩ := bd_ok hF
        refine xX9_mostAlike Z hP hS hq6 wd_36_2 hl.1 (Nat.le_of_ble_eq_true rfl) ⟨Nat.le_of_ble_eq_true rfl, Nat.le_of_ble_eq_true rfl⟩ dX9_ask_52 (fun H locs hP hS => ?_)
        refine lv_istore (lv' := [(6, .int q6.1), (0, .ref (g.1 0)), (2, .int a2), (3, .int a3), (4, .int a4), (5, .int a5)]) hx hb dX9_ask_55 hl (Nat.le_of_ble_eq_true rfl) rfl (fun ls hl => ?_)
        refine lv_iload hx hb dX9_ask_57 (lv_at hl 4 rfl) ?_
        refine lv_iconst (v := (-1 : Int32)) hx hb dX9_ask_59 ic_m1 ?_
        refine lv_icmp_eq (tgt := 70) hx hb dX9_ask_60 rfl (fun hc => ?_) (fun hc => ?_)
        · have hF := (if_pos hc).symm.trans hF
          exact hb70 _ _ _ _ hF _ _ _ (lv_sub hl [1, 2, 5, 0] rfl) hP hS
        · have hF := (if_neg hc).symm.trans hF
          refine lv_iload hx hb dX9_ask_63 (lv_at hl 0 rfl) ?_
          refine lv_iload hx hb dX9_ask_65 (lv_at hl 4 rfl) ?_
          refine lv_icmp_ge (tgt := 77) hx hb dX9_ask_67 rfl (fun hc => ?_) (fun hc => ?_)
          · have hF := (if_pos hc).symm.trans hF
            exact hb77 _ _ _ _ _ hF _ _ _ (lv_sub hl [1, 2, 3, 4, 5] rfl) hP hS
          · have hF := (if_neg hc).symm.trans hF
            exact hb70 _ _ _ _ hF _ _ _ (lv_sub hl [1, 2, 5, 0] rfl) hP hS
  refine lv_iload_n hx hb dX9_ask_0 rfl (lv_at hl 1 rfl) ?_
  refine lv_aload_n hx hb dX9_ask_1 rfl (lv_at hl 0 rfl) ?_
  refine gf9_1 Z hP wd_1_19 dX9_ask_2 ?_
  refine gf8_4N Z hP ck_6 nf_2 dX9_ask_5 ?_
  obtain ⟨q7, hq7, hF⟩ := bd_ok hF
  refine xX9_in Z hP hS hq7 wd_7_7 hl.1 (Nat.le_of_ble_eq_true rfl) ⟨Nat.le_of_ble_eq_true rfl, Nat.le_of_ble_eq_true rfl⟩ dX9_ask_8 (fun H locs hP hS => ?_)
  refine lv_if_ne (tgt := 17) hx hb dX9_ask_11 rfl (fun hc => ?_) (fun hc => ?_)
  · have hF := (if_neg hc).symm.trans hF
    refine lv_aload_n hx hb dX9_ask_17 rfl (lv_at hl 0 rfl) ?_
    obtain ⟨q8, hq8, hF⟩ := bd_ok hF
    refine xX9_refresh Z hP hS hq8 wd_20_10 hl.1 (Nat.le_of_ble_eq_true rfl) ⟨Nat.le_of_ble_eq_true rfl, Nat.le_of_ble_eq_true rfl⟩ dX9_ask_18 (fun H locs hP hS => ?_)
    refine lv_aload_n hx hb dX9_ask_21 rfl (lv_at hl 0 rfl) ?_
    refine lv_iload_n hx hb dX9_ask_22 rfl (lv_at hl 1 rfl) ?_
    obtain ⟨q9, hq9, hF⟩ := bd_ok hF
    refine xX9_heightsOf Z hP hS hq9 wd_34_6 hl.1 (Nat.le_of_ble_eq_true rfl) ⟨Nat.le_of_ble_eq_true rfl, Nat.le_of_ble_eq_true rfl⟩ dX9_ask_23 (fun H locs hP hS => ?_)
    refine lv_istore_n (lv' := [(2, .int q9.1), (0, .ref (g.1 0)), (1, .int v1)]) hx hb dX9_ask_26 rfl hl (Nat.le_of_ble_eq_true rfl) rfl (fun ls hl => ?_)
    refine lv_aload_n hx hb dX9_ask_27 rfl (lv_at hl 1 rfl) ?_
    refine lv_iload_n hx hb dX9_ask_28 rfl (lv_at hl 2 rfl) ?_
    refine lv_iload_n hx hb dX9_ask_29 rfl (lv_at hl 0 rfl) ?_
    obtain ⟨q10, hq10, hF⟩ := bd_ok hF
    refine xX9_countInWell Z hP hS hq10 wd_35_22 hl.1 (Nat.le_of_ble_eq_true rfl) ⟨Nat.le_of_ble_eq_true rfl, Nat.le_of_ble_eq_true rfl⟩ dX9_ask_30 (fun H locs hP hS => ?_)
    refine lv_iconst (v := (-1 : Int32)) hx hb dX9_ask_33 ic_m1 ?_
    refine lv_istore_n (lv' := [(3, .int (-1 : Int32)), (2, .int q9.1), (0, .ref (g.1 0)), (1, .int v1)]) hx hb dX9_ask_34 rfl hl (Nat.le_of_ble_eq_true rfl) rfl (fun ls hl => ?_)
    refine lv_iconst (v := (-1 : Int32)) hx hb dX9_ask_35 ic_m1 ?_
    refine lv_istore (lv' := [(4, .int (-1 : Int32)), (3, .int (-1 : Int32)), (2, .int q9.1), (0, .ref (g.1 0)), (1, .int v1)]) hx hb dX9_ask_36 hl (Nat.le_of_ble_eq_true rfl) rfl (fun ls hl => ?_)
    refine lv_iconst (v := (0 : Int32)) hx hb dX9_ask_38 ic_0 ?_
    refine lv_istore (lv' := [(5, .int (0 : Int32)), (4, .int (-1 : Int32)), (3, .int (-1 : Int32)), (2, .int q9.1), (0, .ref (g.1 0)), (1, .int v1)]) hx hb dX9_ask_39 hl (Nat.le_of_ble_eq_true rfl) rfl (fun ls hl => ?_)
    exact (hL41 FU) _ _ _ _ _ hF _ _ _ (lv_sub hl [4, 3, 2, 1, 0] rfl) hP hS
  · have hF := (if_pos hc).symm.trans hF
    refine lv_bipush (v := (-2 : Int32)) hx hb dX9_ask_14 bp_m2 ?_
    exact ret_IWC Z hr hlk hP hS hF dX9_ask_16
theorem xX9_ask {p : Program} {l : Launch} {e : Env} {R : Room} {s : State} {m : MethodId} {args : Array Value} {below : List Frame} {meth : Method} {c : Code} {H : Heap} {locs : List Loc} {Q : State → Prop} {cc : ByteArray} {nL : Nat} {own : String} {g : GG} {pc index : Nat} {ls : Array Slot} {rest : List Value} {mc mm : Mem} (Z : ZZ p s m args c cc nL own g) (hP : va_P g.2.2.1 vwCl (wL g mc mm) H) (hS : va_S (AA g s.heap.size) s.heap H locs) {v1 : Int32} {q : Int32 × Mem} (hq : F9_ask v1 mc = some q) (hlk : Cond.methodLink own index yX9_ask ∈ wsL_law) (hsz : ls.size = nL) (hro : (rest.map fun v => v.category).sum ≤ 8) (hR : 4 + 1 ≤ R.frames ∧ 8 + (7 + 11) + 105 ≤ R.locals) (hdg : decode cc pc = .ok (.invokevirtual index, 3)) (kk : ∀ (H : Heap) (locs : List Loc), va_P g.2.2.1 vwCl (wL g q.2 mm) H → va_S (AA g s.heap.size) s.heap H locs → W p l e R s m args below meth c H locs 0 0 Q (F0 m (pc + 3) ls (.int q.1 :: rest))) : W p l e R s m args below meth c H locs 0 0 Q (F0 m pc ls (.int v1 :: .ref (g.1 0) :: rest)) :=
  x_VI Z hP hS (kX9_ask l g v1 mc mm q hq) (isO_w ck_0) (ci := 9) (by decide) rfl rfl mf_X9_ask mv_X9_ask hlk rfl rfl hsz hro hR hdg kk
theorem dX9_power_0 : decode cX9_power 0 = .ok (.lconst 1, 1) := by decide +kernel
theorem dX9_power_1 : decode cX9_power 1 = .ok (.lstore_n 3, 1) := by decide +kernel
theorem dX9_power_2 : decode cX9_power 2 = .ok (.iconst 0, 1) := by decide +kernel
theorem dX9_power_3 : decode cX9_power 3 = .ok (.istore 5, 2) := by decide +kernel
theorem dX9_power_5 : decode cX9_power 5 = .ok (.iload 5, 2) := by decide +kernel
theorem dX9_power_7 : decode cX9_power 7 = .ok (.iload_n 2, 1) := by decide +kernel
theorem dX9_power_8 : decode cX9_power 8 = .ok (.if_icmp .ge 13, 3) := by decide +kernel
theorem dX9_power_11 : decode cX9_power 11 = .ok (.lload_n 3, 1) := by decide +kernel
theorem dX9_power_12 : decode cX9_power 12 = .ok (.lload_n 0, 1) := by decide +kernel
theorem dX9_power_13 : decode cX9_power 13 = .ok (.lmul, 1) := by decide +kernel
theorem dX9_power_14 : decode cX9_power 14 = .ok (.lstore_n 3, 1) := by decide +kernel
theorem dX9_power_15 : decode cX9_power 15 = .ok (.iinc 5 1, 3) := by decide +kernel
theorem dX9_power_18 : decode cX9_power 18 = .ok (.goto (-13), 3) := by decide +kernel
theorem dX9_power_21 : decode cX9_power 21 = .ok (.lload_n 3, 1) := by decide +kernel
theorem dX9_power_22 : decode cX9_power 22 = .ok (.lreturn, 1) := by decide +kernel
noncomputable def F9_power_p5 (kh : Int64 → Int32 → Option (Int64)) (v0 : Int64) (v2 : Int32) (a3 : Int64) (a5 : Int32) : Option (Int64) :=
  (if v2 ≤ a5 then some a3 else kh (a3 * v0) (a5 + (1 : Int32)))
noncomputable def F9_power_h5 (v0 : Int64) (v2 : Int32) : Nat → Int64 → Int32 → Option (Int64)
  | 0, _, _ => none
  | n + 1, a3, a5 => F9_power_p5 (F9_power_h5 v0 v2 n) v0 v2 a3 a5
noncomputable def F9_power (v0 : Int64) (v2 : Int32) : Option (Int64) :=
  (F9_power_h5 v0 v2 FU) (1 : Int64) (0 : Int32)
set_option maxHeartbeats 4000000 in
set_option maxRecDepth 100000 in
theorem kX9_power (l : Launch) (g : GG) (v0 : Int64) (v2 : Int32) (mc mm : Mem) (q : Int64) (hF : F9_power v0 v2 = some q) : KL l yX9_power cX9_power 6 0 0 g [.long v0, .int v2] mc mm q (mc, mm) := by
  intro sz
  refine x_start (Qc := fun z => QL g z q (mc, mm)) (by decide +kernel) (Nat.le_of_ble_eq_true rfl) ?_ sz
  intro p e s m args below meth c ls Z hr hlk hP hl
  have hx := Z.1.1
  have hb := Z.1.2.1
  have hown := Z.1.2.2.2.1
  have hts := Z.1.2.2.2.2
  have hS : va_S (AA g s.heap.size) s.heap s.heap [] := va_S.rf
  have hl : lv_has ls 6 [(0, .long v0), (2, .int v2)] := hl
  unfold F9_power at hF
  have hL5 : ∀ n : Nat, ∀ (a3 : Int64) (a5 : Int32), F9_power_h5 v0 v2 n a3 a5 = some q → ∀ (H : Heap) (locs : List Loc) (ls : Array Slot), lv_has ls 6 [(0, .long v0), (2, .int v2), (3, .long a3), (5, .int a5)] → va_P g.2.2.1 vwCl (wL g mc mm) H → va_S (AA g s.heap.size) s.heap H locs → W p l e { frames := 0, cells := 0, slots := 0, locals := 0 } s m args below meth c H locs 0 0 (MQ below (QL g s.heap.size q (mc, mm)) args s 0 0 (AA g s.heap.size)) (F0 m 5 ls []) := by
    intro n
    induction n with
    | zero => intro a3 a5 hF H locs ls hl hP hS; exact absurd hF (fun z => nomatch (show (none : Option _) = some q from z))
    | succ n ih =>
      generalize hkh : F9_power_h5 v0 v2 n = kh at ih
      intro a3 a5 hF H locs ls hl hP hS
      have hF : F9_power_p5 (F9_power_h5 v0 v2 n) v0 v2 a3 a5 = some q := hF
      rw [hkh] at hF
      unfold F9_power_p5 at hF
      refine lv_iload hx hb dX9_power_5 (lv_at hl 3 rfl) ?_
      refine lv_iload_n hx hb dX9_power_7 rfl (lv_at hl 1 rfl) ?_
      refine lv_icmp_ge (tgt := 21) hx hb dX9_power_8 rfl (fun hc => ?_) (fun hc => ?_)
      · have hF := (if_pos hc).symm.trans hF
        refine lv_lload_n hx hb dX9_power_21 rfl (lv_at hl 2 rfl) ?_
        exact ret_J Z hr hlk hP hS hF dX9_power_22
      · have hF := (if_neg hc).symm.trans hF
        refine lv_lload_n hx hb dX9_power_11 rfl (lv_at hl 2 rfl) ?_
        refine lv_lload_n hx hb dX9_power_12 rfl (lv_at hl 0 rfl) ?_
        refine lv_lmul hx hb dX9_power_13 ?_
        refine lv_lstore_n (lv' := [(3, .long (a3 * v0)), (0, .long v0), (2, .int v2), (5, .int a5)]) hx hb dX9_power_14 rfl hl (Nat.le_of_ble_eq_true rfl) rfl (fun ls hl => ?_)
        refine lv_iinc (lv' := [(5, .int (a5 + (1 : Int32))), (3, .long (a3 * v0)), (0, .long v0), (2, .int v2)]) (v := (a5 + (1 : Int32))) hx hb dX9_power_15 hl (k := 3) rfl (io_1 _) (Nat.le_of_ble_eq_true rfl) rfl (fun ls hl => ?_)
        refine lv_goto (tgt := 5) hx hb dX9_power_18 rfl ?_
        exact ih _ _ hF _ _ _ (lv_sub hl [2, 3, 1, 0] rfl) hP hS
  refine lv_lconst (v := (1 : Int64)) hx hb dX9_power_0 lc_1 ?_
  refine lv_lstore_n (lv' := [(3, .long (1 : Int64)), (0, .long v0), (2, .int v2)]) hx hb dX9_power_1 rfl hl (Nat.le_of_ble_eq_true rfl) rfl (fun ls hl => ?_)
  refine lv_iconst (v := (0 : Int32)) hx hb dX9_power_2 ic_0 ?_
  refine lv_istore (lv' := [(5, .int (0 : Int32)), (3, .long (1 : Int64)), (0, .long v0), (2, .int v2)]) hx hb dX9_power_3 hl (Nat.le_of_ble_eq_true rfl) rfl (fun ls hl => ?_)
  exact (hL5 FU) _ _ hF _ _ _ (lv_sub hl [2, 3, 1, 0] rfl) hP hS
theorem xX9_power {p : Program} {l : Launch} {e : Env} {R : Room} {s : State} {m : MethodId} {args : Array Value} {below : List Frame} {meth : Method} {c : Code} {H : Heap} {locs : List Loc} {Q : State → Prop} {cc : ByteArray} {nL : Nat} {own : String} {g : GG} {pc index : Nat} {ls : Array Slot} {rest : List Value} {mc mm : Mem} (Z : ZZ p s m args c cc nL own g) (hP : va_P g.2.2.1 vwCl (wL g mc mm) H) (hS : va_S (AA g s.heap.size) s.heap H locs) {v0 : Int64} {v2 : Int32} {q : Int64} (hq : F9_power v0 v2 = some q) (hlk : Cond.methodLink own index yX9_power ∈ wsL_law) (hsz : ls.size = nL) (hro : (rest.map fun v => v.category).sum ≤ 8) (hR : 0 + 1 ≤ R.frames ∧ 8 + (6 + 11) + 0 ≤ R.locals) (hdg : decode cc pc = .ok (.invokestatic index, 3)) (kk : ∀ (H : Heap) (locs : List Loc), va_P g.2.2.1 vwCl (wL g mc mm) H → va_S (AA g s.heap.size) s.heap H locs → W p l e R s m args below meth c H locs 0 0 Q (F0 m (pc + 3) ls (.long q :: rest))) : W p l e R s m args below meth c H locs 0 0 Q (F0 m pc ls (.int v2 :: .long v0 :: rest)) :=
  x_SL Z hP hS (kX9_power l g v0 v2 mc mm q hq) mf_X9_power wd_37_7 hlk rfl rfl hsz hro hR hdg kk
theorem dX9_heardWeight_0 : decode cX9_heardWeight 0 = .ok (.lconst 0, 1) := by decide +kernel
theorem dX9_heardWeight_1 : decode cX9_heardWeight 1 = .ok (.lstore 4, 2) := by decide +kernel
theorem dX9_heardWeight_3 : decode cX9_heardWeight 3 = .ok (.iconst 0, 1) := by decide +kernel
theorem dX9_heardWeight_4 : decode cX9_heardWeight 4 = .ok (.istore 6, 2) := by decide +kernel
theorem dX9_heardWeight_6 : decode cX9_heardWeight 6 = .ok (.iload 6, 2) := by decide +kernel
theorem dX9_heardWeight_8 : decode cX9_heardWeight 8 = .ok (.iconst 1, 1) := by decide +kernel
theorem dX9_heardWeight_9 : decode cX9_heardWeight 9 = .ok (.aload_n 0, 1) := by decide +kernel
theorem dX9_heardWeight_10 : decode cX9_heardWeight 10 = .ok (.getfield 35, 3) := by decide +kernel
theorem dX9_heardWeight_13 : decode cX9_heardWeight 13 = .ok (.getfield 160, 3) := by decide +kernel
theorem dX9_heardWeight_16 : decode cX9_heardWeight 16 = .ok (.ishl, 1) := by decide +kernel
theorem dX9_heardWeight_17 : decode cX9_heardWeight 17 = .ok (.if_icmp .ge 127, 3) := by decide +kernel
theorem dX9_heardWeight_20 : decode cX9_heardWeight 20 = .ok (.iload 6, 2) := by decide +kernel
theorem dX9_heardWeight_22 : decode cX9_heardWeight 22 = .ok (.invokestatic 225, 3) := by decide +kernel
theorem dX9_heardWeight_25 : decode cX9_heardWeight 25 = .ok (.istore 7, 2) := by decide +kernel
theorem dX9_heardWeight_27 : decode cX9_heardWeight 27 = .ok (.iload_n 1, 1) := by decide +kernel
theorem dX9_heardWeight_28 : decode cX9_heardWeight 28 = .ok (.i2l, 1) := by decide +kernel
theorem dX9_heardWeight_29 : decode cX9_heardWeight 29 = .ok (.iload 7, 2) := by decide +kernel
theorem dX9_heardWeight_31 : decode cX9_heardWeight 31 = .ok (.invokestatic 261, 3) := by decide +kernel
theorem dX9_heardWeight_34 : decode cX9_heardWeight 34 = .ok (.bipush 16, 2) := by decide +kernel
theorem dX9_heardWeight_36 : decode cX9_heardWeight 36 = .ok (.iload_n 1, 1) := by decide +kernel
theorem dX9_heardWeight_37 : decode cX9_heardWeight 37 = .ok (.isub, 1) := by decide +kernel
theorem dX9_heardWeight_38 : decode cX9_heardWeight 38 = .ok (.i2l, 1) := by decide +kernel
theorem dX9_heardWeight_39 : decode cX9_heardWeight 39 = .ok (.aload_n 0, 1) := by decide +kernel
theorem dX9_heardWeight_40 : decode cX9_heardWeight 40 = .ok (.getfield 35, 3) := by decide +kernel
theorem dX9_heardWeight_43 : decode cX9_heardWeight 43 = .ok (.getfield 160, 3) := by decide +kernel
theorem dX9_heardWeight_46 : decode cX9_heardWeight 46 = .ok (.iload 7, 2) := by decide +kernel
theorem dX9_heardWeight_48 : decode cX9_heardWeight 48 = .ok (.isub, 1) := by decide +kernel
theorem dX9_heardWeight_49 : decode cX9_heardWeight 49 = .ok (.invokestatic 261, 3) := by decide +kernel
theorem dX9_heardWeight_52 : decode cX9_heardWeight 52 = .ok (.lmul, 1) := by decide +kernel
theorem dX9_heardWeight_53 : decode cX9_heardWeight 53 = .ok (.lstore 8, 2) := by decide +kernel
theorem dX9_heardWeight_55 : decode cX9_heardWeight 55 = .ok (.lload 8, 2) := by decide +kernel
theorem dX9_heardWeight_57 : decode cX9_heardWeight 57 = .ok (.lconst 0, 1) := by decide +kernel
theorem dX9_heardWeight_58 : decode cX9_heardWeight 58 = .ok (.lcmp, 1) := by decide +kernel
theorem dX9_heardWeight_59 : decode cX9_heardWeight 59 = .ok (.ifCond .ne 6, 3) := by decide +kernel
theorem dX9_heardWeight_62 : decode cX9_heardWeight 62 = .ok (.goto 76, 3) := by decide +kernel
theorem dX9_heardWeight_65 : decode cX9_heardWeight 65 = .ok (.aload_n 0, 1) := by decide +kernel
theorem dX9_heardWeight_66 : decode cX9_heardWeight 66 = .ok (.getfield 74, 3) := by decide +kernel
theorem dX9_heardWeight_69 : decode cX9_heardWeight 69 = .ok (.aload_n 0, 1) := by decide +kernel
theorem dX9_heardWeight_70 : decode cX9_heardWeight 70 = .ok (.getfield 35, 3) := by decide +kernel
theorem dX9_heardWeight_73 : decode cX9_heardWeight 73 = .ok (.iload 6, 2) := by decide +kernel
theorem dX9_heardWeight_75 : decode cX9_heardWeight 75 = .ok (.invokevirtual 232, 3) := by decide +kernel
theorem dX9_heardWeight_78 : decode cX9_heardWeight 78 = .ok (.aload_n 0, 1) := by decide +kernel
theorem dX9_heardWeight_79 : decode cX9_heardWeight 79 = .ok (.getfield 80, 3) := by decide +kernel
theorem dX9_heardWeight_82 : decode cX9_heardWeight 82 = .ok (.aload_n 0, 1) := by decide +kernel
theorem dX9_heardWeight_83 : decode cX9_heardWeight 83 = .ok (.getfield 21, 3) := by decide +kernel
theorem dX9_heardWeight_86 : decode cX9_heardWeight 86 = .ok (.aload_n 0, 1) := by decide +kernel
theorem dX9_heardWeight_87 : decode cX9_heardWeight 87 = .ok (.getfield 74, 3) := by decide +kernel
theorem dX9_heardWeight_90 : decode cX9_heardWeight 90 = .ok (.aload_n 0, 1) := by decide +kernel
theorem dX9_heardWeight_91 : decode cX9_heardWeight 91 = .ok (.getfield 28, 3) := by decide +kernel
theorem dX9_heardWeight_94 : decode cX9_heardWeight 94 = .ok (.iload_n 2, 1) := by decide +kernel
theorem dX9_heardWeight_95 : decode cX9_heardWeight 95 = .ok (.aload_n 0, 1) := by decide +kernel
theorem dX9_heardWeight_96 : decode cX9_heardWeight 96 = .ok (.getfield 28, 3) := by decide +kernel
theorem dX9_heardWeight_99 : decode cX9_heardWeight 99 = .ok (.getfield 138, 3) := by decide +kernel
theorem dX9_heardWeight_102 : decode cX9_heardWeight 102 = .ok (.iload_n 2, 1) := by decide +kernel
theorem dX9_heardWeight_103 : decode cX9_heardWeight 103 = .ok (.iaload, 1) := by decide +kernel
theorem dX9_heardWeight_104 : decode cX9_heardWeight 104 = .ok (.aload_n 0, 1) := by decide +kernel
theorem dX9_heardWeight_105 : decode cX9_heardWeight 105 = .ok (.getfield 28, 3) := by decide +kernel
theorem dX9_heardWeight_108 : decode cX9_heardWeight 108 = .ok (.getfield 141, 3) := by decide +kernel
theorem dX9_heardWeight_111 : decode cX9_heardWeight 111 = .ok (.iload_n 2, 1) := by decide +kernel
theorem dX9_heardWeight_112 : decode cX9_heardWeight 112 = .ok (.iaload, 1) := by decide +kernel
theorem dX9_heardWeight_113 : decode cX9_heardWeight 113 = .ok (.invokevirtual 198, 3) := by decide +kernel
theorem dX9_heardWeight_116 : decode cX9_heardWeight 116 = .ok (.lload 4, 2) := by decide +kernel
theorem dX9_heardWeight_118 : decode cX9_heardWeight 118 = .ok (.aload_n 0, 1) := by decide +kernel
theorem dX9_heardWeight_119 : decode cX9_heardWeight 119 = .ok (.getfield 80, 3) := by decide +kernel
theorem dX9_heardWeight_122 : decode cX9_heardWeight 122 = .ok (.iload_n 3, 1) := by decide +kernel
theorem dX9_heardWeight_123 : decode cX9_heardWeight 123 = .ok (.invokevirtual 186, 3) := by decide +kernel
theorem dX9_heardWeight_126 : decode cX9_heardWeight 126 = .ok (.ifCond .eq 8, 3) := by decide +kernel
theorem dX9_heardWeight_129 : decode cX9_heardWeight 129 = .ok (.lload 8, 2) := by decide +kernel
theorem dX9_heardWeight_131 : decode cX9_heardWeight 131 = .ok (.goto 4, 3) := by decide +kernel
theorem dX9_heardWeight_134 : decode cX9_heardWeight 134 = .ok (.lconst 0, 1) := by decide +kernel
theorem dX9_heardWeight_135 : decode cX9_heardWeight 135 = .ok (.ladd, 1) := by decide +kernel
theorem dX9_heardWeight_136 : decode cX9_heardWeight 136 = .ok (.lstore 4, 2) := by decide +kernel
theorem dX9_heardWeight_138 : decode cX9_heardWeight 138 = .ok (.iinc 6 1, 3) := by decide +kernel
theorem dX9_heardWeight_141 : decode cX9_heardWeight 141 = .ok (.goto (-135), 3) := by decide +kernel
theorem dX9_heardWeight_144 : decode cX9_heardWeight 144 = .ok (.lload 4, 2) := by decide +kernel
theorem dX9_heardWeight_146 : decode cX9_heardWeight 146 = .ok (.lreturn, 1) := by decide +kernel
noncomputable def F9_heardWeight_b138 (kh : Int64 → Int32 → Mem → Option (Int64 × Mem)) (v1 : Int32) (v2 : Int32) (v3 : Int32) (a4 : Int64) (a6 : Int32) (M : Mem) : Option (Int64 × Mem) :=
  kh a4 (a6 + (1 : Int32)) M
noncomputable def F9_heardWeight_b135 (kh : Int64 → Int32 → Mem → Option (Int64 × Mem)) (v1 : Int32) (v2 : Int32) (v3 : Int32) (a6 : Int32) (s0 : Int64) (s1 : Int64) (M : Mem) : Option (Int64 × Mem) :=
  (F9_heardWeight_b138 kh v1 v2 v3) (s0 + s1) a6 M
noncomputable def F9_heardWeight_p6 (kh : Int64 → Int32 → Mem → Option (Int64 × Mem)) (v1 : Int32) (v2 : Int32) (v3 : Int32) (a4 : Int64) (a6 : Int32) (M : Mem) : Option (Int64 × Mem) :=
  (if ((1 : Int32) <<< ((M 17 3) &&& (31 : Int32))) ≤ a6 then some (a4, M) else ((F6_bitCount_0f7a4 a6).bind (fun q9 => ((F9_power v1.toInt64 q9).bind (fun q10 => ((F9_power (((16 : Int32) - v1).toInt64) ((M 17 3) - q9)).bind (fun q11 => (if (lg_cmp (q10 * q11) (0 : Int64)) = (0 : Int32) then (F9_heardWeight_b138 kh v1 v2 v3) a4 a6 M else ((F3_fill 84 17 a6 M).bind (fun q12 => (ck v2 8 (ck v2 8 ((F4_follow 92 6 84 11 v2 (q12 13 v2.toNatClampNeg) (q12 14 v2.toNatClampNeg) q12).bind (fun q15 => ((F4_isHeardAt 92 v3 q15).bind (fun q16 => (if q16 = (0 : Int32) then (F9_heardWeight_b135 kh v1 v2 v3) a6 a4 (0 : Int64) q15 else (F9_heardWeight_b135 kh v1 v2 v3) a6 a4 (q10 * q11) q15)))))))))))))))))
noncomputable def F9_heardWeight_h6 (v1 : Int32) (v2 : Int32) (v3 : Int32) : Nat → Int64 → Int32 → Mem → Option (Int64 × Mem)
  | 0, _, _, _ => none
  | n + 1, a4, a6, M => F9_heardWeight_p6 (F9_heardWeight_h6 v1 v2 v3 n) v1 v2 v3 a4 a6 M
noncomputable def F9_heardWeight (v1 : Int32) (v2 : Int32) (v3 : Int32) (mc : Mem) : Option (Int64 × Mem) :=
  (F9_heardWeight_h6 v1 v2 v3 FU) (0 : Int64) (0 : Int32) mc
set_option maxHeartbeats 4000000 in
set_option maxRecDepth 100000 in
theorem kX9_heardWeight (l : Launch) (g : GG) (v1 : Int32) (v2 : Int32) (v3 : Int32) (mc mm : Mem) (q : Int64 × Mem) (hF : F9_heardWeight v1 v2 v3 mc = some q) : KL l yX9_heardWeight cX9_heardWeight 10 2 56 g [.ref (g.1 0), .int v1, .int v2, .int v3] mc mm q.1 (q.2, mm) := by
  intro sz
  refine x_start (Qc := fun z => QL g z q.1 (q.2, mm)) (by decide +kernel) (Nat.le_of_ble_eq_true rfl) ?_ sz
  intro p e s m args below meth c ls Z hr hlk hP hl
  have hx := Z.1.1
  have hb := Z.1.2.1
  have hown := Z.1.2.2.2.1
  have hts := Z.1.2.2.2.2
  have hS : va_S (AA g s.heap.size) s.heap s.heap [] := va_S.rf
  have hl : lv_has ls 10 [(0, .ref (g.1 0)), (1, .int v1), (2, .int v2), (3, .int v3)] := hl
  unfold F9_heardWeight at hF
  have hL6 : ∀ n : Nat, ∀ (a4 : Int64) (a6 : Int32) (M : Mem), F9_heardWeight_h6 v1 v2 v3 n a4 a6 M = some q → ∀ (H : Heap) (locs : List Loc) (ls : Array Slot), lv_has ls 10 [(0, .ref (g.1 0)), (1, .int v1), (2, .int v2), (3, .int v3), (4, .long a4), (6, .int a6)] → va_P g.2.2.1 vwCl (wL g M mm) H → va_S (AA g s.heap.size) s.heap H locs → W p l e { frames := 2, cells := 0, slots := 0, locals := 56 } s m args below meth c H locs 0 0 (MQ below (QL g s.heap.size q.1 (q.2, mm)) args s 0 0 (AA g s.heap.size)) (F0 m 6 ls []) := by
    intro n
    induction n with
    | zero => intro a4 a6 M hF H locs ls hl hP hS; exact absurd hF (fun z => nomatch (show (none : Option _) = some q from z))
    | succ n ih =>
      generalize hkh : F9_heardWeight_h6 v1 v2 v3 n = kh at ih
      have hb138 : ∀ (a4 : Int64) (a6 : Int32) (M : Mem), F9_heardWeight_b138 kh v1 v2 v3 a4 a6 M = some q → ∀ (H : Heap) (locs : List Loc) (ls : Array Slot), lv_has ls 10 [(0, .ref (g.1 0)), (1, .int v1), (2, .int v2), (3, .int v3), (4, .long a4), (6, .int a6)] → va_P g.2.2.1 vwCl (wL g M mm) H → va_S (AA g s.heap.size) s.heap H locs → W p l e { frames := 2, cells := 0, slots := 0, locals := 56 } s m args below meth c H locs 0 0 (MQ below (QL g s.heap.size q.1 (q.2, mm)) args s 0 0 (AA g s.heap.size)) (F0 m 138 ls []) := by
        intro a4 a6 M hF H locs ls hl hP hS
        unfold F9_heardWeight_b138 at hF
        refine lv_iinc (lv' := [(6, .int (a6 + (1 : Int32))), (0, .ref (g.1 0)), (1, .int v1), (2, .int v2), (3, .int v3), (4, .long a4)]) (v := (a6 + (1 : Int32))) hx hb dX9_heardWeight_138 hl (k := 5) rfl (io_1 _) (Nat.le_of_ble_eq_true rfl) rfl (fun ls hl => ?_)
        refine lv_goto (tgt := 6) hx hb dX9_heardWeight_141 rfl ?_
        exact ih _ _ _ hF _ _ _ (lv_sub hl [1, 2, 3, 4, 5, 0] rfl) hP hS
      have hb135 : ∀ (a6 : Int32) (s0 : Int64) (s1 : Int64) (M : Mem), F9_heardWeight_b135 kh v1 v2 v3 a6 s0 s1 M = some q → ∀ (H : Heap) (locs : List Loc) (ls : Array Slot), lv_has ls 10 [(0, .ref (g.1 0)), (1, .int v1), (2, .int v2), (3, .int v3), (6, .int a6)] → va_P g.2.2.1 vwCl (wL g M mm) H → va_S (AA g s.heap.size) s.heap H locs → W p l e { frames := 2, cells := 0, slots := 0, locals := 56 } s m args below meth c H locs 0 0 (MQ below (QL g s.heap.size q.1 (q.2, mm)) args s 0 0 (AA g s.heap.size)) (F0 m 135 ls [.long s1, .long s0]) := by
        intro a6 s0 s1 M hF H locs ls hl hP hS
        unfold F9_heardWeight_b135 at hF
        refine lv_ladd hx hb dX9_heardWeight_135 ?_
        refine lv_lstore (lv' := [(4, .long (s0 + s1)), (0, .ref (g.1 0)), (1, .int v1), (2, .int v2), (3, .int v3), (6, .int a6)]) hx hb dX9_heardWeight_136 hl (Nat.le_of_ble_eq_true rfl) rfl (fun ls hl => ?_)
        exact hb138 _ _ _ hF _ _ _ (lv_sub hl [1, 2, 3, 4, 0, 5] rfl) hP hS
      intro a4 a6 M hF H locs ls hl hP hS
      have hF : F9_heardWeight_p6 (F9_heardWeight_h6 v1 v2 v3 n) v1 v2 v3 a4 a6 M = some q := hF
      rw [hkh] at hF
      unfold F9_heardWeight_p6 at hF
      refine lv_iload hx hb dX9_heardWeight_6 (lv_at hl 5 rfl) ?_
      refine lv_iconst (v := (1 : Int32)) hx hb dX9_heardWeight_8 ic_1 ?_
      refine lv_aload_n hx hb dX9_heardWeight_9 rfl (lv_at hl 0 rfl) ?_
      refine gf9_3 Z hP wd_2_3 dX9_heardWeight_10 ?_
      refine gf2_3N Z hP ck_17 nf_12 dX9_heardWeight_13 ?_
      refine lv_ishl hx hb dX9_heardWeight_16 ?_
      refine lv_icmp_ge (tgt := 144) hx hb dX9_heardWeight_17 rfl (fun hc => ?_) (fun hc => ?_)
      · have hF := (if_pos hc).symm.trans hF
        refine lv_lload hx hb dX9_heardWeight_144 (lv_at hl 4 rfl) ?_
        exact ret_JWC Z hr hlk hP hS hF dX9_heardWeight_146
      · have hF := (if_neg hc).symm.trans hF
        refine lv_iload hx hb dX9_heardWeight_20 (lv_at hl 5 rfl) ?_
        obtain ⟨q9, hq9, hF⟩ := bd_ok hF
        refine xJ6_bitCount_0f7a4 Z hP hS hq9 wd_31_6 hl.1 (Nat.le_of_ble_eq_true rfl) ⟨Nat.le_of_ble_eq_true rfl, Nat.le_of_ble_eq_true rfl⟩ dX9_heardWeight_22 (fun H locs hP hS => ?_)
        refine lv_istore (lv' := [(7, .int q9), (0, .ref (g.1 0)), (1, .int v1), (2, .int v2), (3, .int v3), (4, .long a4), (6, .int a6)]) hx hb dX9_heardWeight_25 hl (Nat.le_of_ble_eq_true rfl) rfl (fun ls hl => ?_)
        refine lv_iload_n hx hb dX9_heardWeight_27 rfl (lv_at hl 2 rfl) ?_
        refine lv_i2l (v := v1.toInt64) hx hb dX9_heardWeight_28 rfl ?_
        refine lv_iload hx hb dX9_heardWeight_29 (lv_at hl 0 rfl) ?_
        obtain ⟨q10, hq10, hF⟩ := bd_ok hF
        refine xX9_power Z hP hS hq10 wd_37_6 hl.1 (Nat.le_of_ble_eq_true rfl) ⟨Nat.le_of_ble_eq_true rfl, Nat.le_of_ble_eq_true rfl⟩ dX9_heardWeight_31 (fun H locs hP hS => ?_)
        refine lv_bipush (v := (16 : Int32)) hx hb dX9_heardWeight_34 bp_16 ?_
        refine lv_iload_n hx hb dX9_heardWeight_36 rfl (lv_at hl 2 rfl) ?_
        refine lv_isub hx hb dX9_heardWeight_37 ?_
        refine lv_i2l (v := ((16 : Int32) - v1).toInt64) hx hb dX9_heardWeight_38 rfl ?_
        refine lv_aload_n hx hb dX9_heardWeight_39 rfl (lv_at hl 1 rfl) ?_
        refine gf9_3 Z hP wd_2_3 dX9_heardWeight_40 ?_
        refine gf2_3N Z hP ck_17 nf_12 dX9_heardWeight_43 ?_
        refine lv_iload hx hb dX9_heardWeight_46 (lv_at hl 0 rfl) ?_
        refine lv_isub hx hb dX9_heardWeight_48 ?_
        obtain ⟨q11, hq11, hF⟩ := bd_ok hF
        refine xX9_power Z hP hS hq11 wd_37_6 hl.1 (Nat.le_of_ble_eq_true rfl) ⟨Nat.le_of_ble_eq_true rfl, Nat.le_of_ble_eq_true rfl⟩ dX9_heardWeight_49 (fun H locs hP hS => ?_)
        refine lv_lmul hx hb dX9_heardWeight_52 ?_
        refine lv_lstore (lv' := [(8, .long (q10 * q11)), (7, .int q9), (0, .ref (g.1 0)), (1, .int v1), (2, .int v2), (3, .int v3), (4, .long a4), (6, .int a6)]) hx hb dX9_heardWeight_53 hl (Nat.le_of_ble_eq_true rfl) rfl (fun ls hl => ?_)
        refine lv_lload hx hb dX9_heardWeight_55 (lv_at hl 0 rfl) ?_
        refine lv_lconst (v := (0 : Int64)) hx hb dX9_heardWeight_57 lc_0 ?_
        refine W.lcmp hx hb dX9_heardWeight_58 ?_
        refine lv_if_ne (tgt := 65) hx hb dX9_heardWeight_59 rfl (fun hc => ?_) (fun hc => ?_)
        · have hF := (if_neg hc).symm.trans hF
          refine lv_aload_n hx hb dX9_heardWeight_65 rfl (lv_at hl 2 rfl) ?_
          refine gf9_11 Z hP wd_2_22 dX9_heardWeight_66 ?_
          refine lv_aload_n hx hb dX9_heardWeight_69 rfl (lv_at hl 2 rfl) ?_
          refine gf9_3 Z hP wd_2_3 dX9_heardWeight_70 ?_
          refine lv_iload hx hb dX9_heardWeight_73 (lv_at hl 7 rfl) ?_
          obtain ⟨q12, hq12, hF⟩ := bd_ok hF
          refine xX3_fill Z hP hS ck_84 ck_17 hq12 wd_20_14 hl.1 (Nat.le_of_ble_eq_true rfl) ⟨Nat.le_of_ble_eq_true rfl, Nat.le_of_ble_eq_true rfl⟩ dX9_heardWeight_75 (fun H locs hP hS => ?_)
          refine lv_aload_n hx hb dX9_heardWeight_78 rfl (lv_at hl 2 rfl) ?_
          refine gf9_13 Z hP wd_3_0 dX9_heardWeight_79 ?_
          refine lv_aload_n hx hb dX9_heardWeight_82 rfl (lv_at hl 2 rfl) ?_
          refine gf9_1 Z hP wd_1_19 dX9_heardWeight_83 ?_
          refine lv_aload_n hx hb dX9_heardWeight_86 rfl (lv_at hl 2 rfl) ?_
          refine gf9_11 Z hP wd_2_22 dX9_heardWeight_87 ?_
          refine lv_aload_n hx hb dX9_heardWeight_90 rfl (lv_at hl 2 rfl) ?_
          refine gf9_2 Z hP wd_1_23 dX9_heardWeight_91 ?_
          refine lv_iload_n hx hb dX9_heardWeight_94 rfl (lv_at hl 4 rfl) ?_
          refine lv_aload_n hx hb dX9_heardWeight_95 rfl (lv_at hl 2 rfl) ?_
          refine gf9_2 Z hP wd_1_23 dX9_heardWeight_96 ?_
          refine gf5_1N Z hP ck_11 nf_9 dX9_heardWeight_99 ?_
          refine lv_iload_n hx hb dX9_heardWeight_102 rfl (lv_at hl 4 rfl) ?_
          obtain ⟨hi13, hF⟩ := ck_ok hF
          refine ra_ld Z hP (ia_5_1 ck_11) hi13 dX9_heardWeight_103 ?_
          refine lv_aload_n hx hb dX9_heardWeight_104 rfl (lv_at hl 2 rfl) ?_
          refine gf9_2 Z hP wd_1_23 dX9_heardWeight_105 ?_
          refine gf5_2N Z hP ck_11 nf_10 dX9_heardWeight_108 ?_
          refine lv_iload_n hx hb dX9_heardWeight_111 rfl (lv_at hl 4 rfl) ?_
          obtain ⟨hi14, hF⟩ := ck_ok hF
          refine ra_ld Z hP (ia_5_2 ck_11) hi14 dX9_heardWeight_112 ?_
          obtain ⟨q15, hq15, hF⟩ := bd_ok hF
          refine xX4_follow Z hP hS ck_92 ck_6 ck_84 ck_11 hq15 wd_20_22 hl.1 (Nat.le_of_ble_eq_true rfl) ⟨Nat.le_of_ble_eq_true rfl, Nat.le_of_ble_eq_true rfl⟩ dX9_heardWeight_113 (fun H locs hP hS => ?_)
          refine lv_lload hx hb dX9_heardWeight_116 (lv_at hl 6 rfl) ?_
          refine lv_aload_n hx hb dX9_heardWeight_118 rfl (lv_at hl 2 rfl) ?_
          refine gf9_13 Z hP wd_3_0 dX9_heardWeight_119 ?_
          refine lv_iload_n hx hb dX9_heardWeight_122 rfl (lv_at hl 5 rfl) ?_
          obtain ⟨q16, hq16, hF⟩ := bd_ok hF
          refine xX4_isHeardAt Z hP hS ck_92 hq16 wd_24_22 hl.1 (Nat.le_of_ble_eq_true rfl) ⟨Nat.le_of_ble_eq_true rfl, Nat.le_of_ble_eq_true rfl⟩ dX9_heardWeight_123 (fun H locs hP hS => ?_)
          refine lv_if_eq (tgt := 134) hx hb dX9_heardWeight_126 rfl (fun hc => ?_) (fun hc => ?_)
          · have hF := (if_pos hc).symm.trans hF
            refine lv_lconst (v := (0 : Int64)) hx hb dX9_heardWeight_134 lc_0 ?_
            exact hb135 _ _ _ _ hF _ _ _ (lv_sub hl [2, 3, 4, 5, 7] rfl) hP hS
          · have hF := (if_neg hc).symm.trans hF
            refine lv_lload hx hb dX9_heardWeight_129 (lv_at hl 0 rfl) ?_
            refine lv_goto (tgt := 135) hx hb dX9_heardWeight_131 rfl ?_
            exact hb135 _ _ _ _ hF _ _ _ (lv_sub hl [2, 3, 4, 5, 7] rfl) hP hS
        · have hF := (if_pos hc).symm.trans hF
          refine lv_goto (tgt := 138) hx hb dX9_heardWeight_62 rfl ?_
          exact hb138 _ _ _ hF _ _ _ (lv_sub hl [2, 3, 4, 5, 6, 7] rfl) hP hS
  refine lv_lconst (v := (0 : Int64)) hx hb dX9_heardWeight_0 lc_0 ?_
  refine lv_lstore (lv' := [(4, .long (0 : Int64)), (0, .ref (g.1 0)), (1, .int v1), (2, .int v2), (3, .int v3)]) hx hb dX9_heardWeight_1 hl (Nat.le_of_ble_eq_true rfl) rfl (fun ls hl => ?_)
  refine lv_iconst (v := (0 : Int32)) hx hb dX9_heardWeight_3 ic_0 ?_
  refine lv_istore (lv' := [(6, .int (0 : Int32)), (4, .long (0 : Int64)), (0, .ref (g.1 0)), (1, .int v1), (2, .int v2), (3, .int v3)]) hx hb dX9_heardWeight_4 hl (Nat.le_of_ble_eq_true rfl) rfl (fun ls hl => ?_)
  exact (hL6 FU) _ _ _ hF _ _ _ (lv_sub hl [2, 3, 4, 5, 1, 0] rfl) hP hS
theorem xX9_heardWeight {p : Program} {l : Launch} {e : Env} {R : Room} {s : State} {m : MethodId} {args : Array Value} {below : List Frame} {meth : Method} {c : Code} {H : Heap} {locs : List Loc} {Q : State → Prop} {cc : ByteArray} {nL : Nat} {own : String} {g : GG} {pc index : Nat} {ls : Array Slot} {rest : List Value} {mc mm : Mem} (Z : ZZ p s m args c cc nL own g) (hP : va_P g.2.2.1 vwCl (wL g mc mm) H) (hS : va_S (AA g s.heap.size) s.heap H locs) {v1 : Int32} {v2 : Int32} {v3 : Int32} {q : Int64 × Mem} (hq : F9_heardWeight v1 v2 v3 mc = some q) (hlk : Cond.methodLink own index yX9_heardWeight ∈ wsL_law) (hsz : ls.size = nL) (hro : (rest.map fun v => v.category).sum ≤ 8) (hR : 2 + 1 ≤ R.frames ∧ 8 + (10 + 11) + 56 ≤ R.locals) (hdg : decode cc pc = .ok (.invokevirtual index, 3)) (kk : ∀ (H : Heap) (locs : List Loc), va_P g.2.2.1 vwCl (wL g q.2 mm) H → va_S (AA g s.heap.size) s.heap H locs → W p l e R s m args below meth c H locs 0 0 Q (F0 m (pc + 3) ls (.long q.1 :: rest))) : W p l e R s m args below meth c H locs 0 0 Q (F0 m pc ls (.int v3 :: .int v2 :: .int v1 :: .ref (g.1 0) :: rest)) :=
  x_VL Z hP hS (kX9_heardWeight l g v1 v2 v3 mc mm q hq) (isO_w ck_0) (ci := 9) (by decide) rfl rfl mf_X9_heardWeight mv_X9_heardWeight hlk rfl rfl hsz hro hR hdg kk
theorem dX9_chance_0 : decode cX9_chance 0 = .ok (.iload_n 1, 1) := by decide +kernel
theorem dX9_chance_1 : decode cX9_chance 1 = .ok (.bipush 17, 2) := by decide +kernel
theorem dX9_chance_3 : decode cX9_chance 3 = .ok (.invokestatic 101, 3) := by decide +kernel
theorem dX9_chance_6 : decode cX9_chance 6 = .ok (.ifCond .eq 35, 3) := by decide +kernel
theorem dX9_chance_9 : decode cX9_chance 9 = .ok (.iload_n 2, 1) := by decide +kernel
theorem dX9_chance_10 : decode cX9_chance 10 = .ok (.aload_n 0, 1) := by decide +kernel
theorem dX9_chance_11 : decode cX9_chance 11 = .ok (.getfield 28, 3) := by decide +kernel
theorem dX9_chance_14 : decode cX9_chance 14 = .ok (.getfield 134, 3) := by decide +kernel
theorem dX9_chance_17 : decode cX9_chance 17 = .ok (.invokestatic 101, 3) := by decide +kernel
theorem dX9_chance_20 : decode cX9_chance 20 = .ok (.ifCond .eq 21, 3) := by decide +kernel
theorem dX9_chance_23 : decode cX9_chance 23 = .ok (.iload_n 3, 1) := by decide +kernel
theorem dX9_chance_24 : decode cX9_chance 24 = .ok (.bipush 8, 2) := by decide +kernel
theorem dX9_chance_26 : decode cX9_chance 26 = .ok (.invokestatic 101, 3) := by decide +kernel
theorem dX9_chance_29 : decode cX9_chance 29 = .ok (.ifCond .eq 12, 3) := by decide +kernel
theorem dX9_chance_32 : decode cX9_chance 32 = .ok (.iload 4, 2) := by decide +kernel
theorem dX9_chance_34 : decode cX9_chance 34 = .ok (.iconst 2, 1) := by decide +kernel
theorem dX9_chance_35 : decode cX9_chance 35 = .ok (.invokestatic 101, 3) := by decide +kernel
theorem dX9_chance_38 : decode cX9_chance 38 = .ok (.ifCond .ne 7, 3) := by decide +kernel
theorem dX9_chance_41 : decode cX9_chance 41 = .ok (.ldc2_w 253, 3) := by decide +kernel
theorem dX9_chance_44 : decode cX9_chance 44 = .ok (.lreturn, 1) := by decide +kernel
theorem dX9_chance_45 : decode cX9_chance 45 = .ok (.aload_n 0, 1) := by decide +kernel
theorem dX9_chance_46 : decode cX9_chance 46 = .ok (.iload_n 1, 1) := by decide +kernel
theorem dX9_chance_47 : decode cX9_chance 47 = .ok (.iload_n 2, 1) := by decide +kernel
theorem dX9_chance_48 : decode cX9_chance 48 = .ok (.iload_n 3, 1) := by decide +kernel
theorem dX9_chance_49 : decode cX9_chance 49 = .ok (.invokevirtual 255, 3) := by decide +kernel
theorem dX9_chance_52 : decode cX9_chance 52 = .ok (.lstore 5, 2) := by decide +kernel
theorem dX9_chance_54 : decode cX9_chance 54 = .ok (.ldc2_w 259, 3) := by decide +kernel
theorem dX9_chance_57 : decode cX9_chance 57 = .ok (.aload_n 0, 1) := by decide +kernel
theorem dX9_chance_58 : decode cX9_chance 58 = .ok (.getfield 35, 3) := by decide +kernel
theorem dX9_chance_61 : decode cX9_chance 61 = .ok (.getfield 160, 3) := by decide +kernel
theorem dX9_chance_64 : decode cX9_chance 64 = .ok (.invokestatic 261, 3) := by decide +kernel
theorem dX9_chance_67 : decode cX9_chance 67 = .ok (.lstore 7, 2) := by decide +kernel
theorem dX9_chance_69 : decode cX9_chance 69 = .ok (.lload 5, 2) := by decide +kernel
theorem dX9_chance_71 : decode cX9_chance 71 = .ok (.lconst 0, 1) := by decide +kernel
theorem dX9_chance_72 : decode cX9_chance 72 = .ok (.lcmp, 1) := by decide +kernel
theorem dX9_chance_73 : decode cX9_chance 73 = .ok (.ifCond .ne 14, 3) := by decide +kernel
theorem dX9_chance_76 : decode cX9_chance 76 = .ok (.iload 4, 2) := by decide +kernel
theorem dX9_chance_78 : decode cX9_chance 78 = .ok (.ifCond .ne 7, 3) := by decide +kernel
theorem dX9_chance_81 : decode cX9_chance 81 = .ok (.lconst 0, 1) := by decide +kernel
theorem dX9_chance_82 : decode cX9_chance 82 = .ok (.goto 4, 3) := by decide +kernel
theorem dX9_chance_85 : decode cX9_chance 85 = .ok (.lconst 1, 1) := by decide +kernel
theorem dX9_chance_86 : decode cX9_chance 86 = .ok (.lreturn, 1) := by decide +kernel
theorem dX9_chance_87 : decode cX9_chance 87 = .ok (.iconst 0, 1) := by decide +kernel
theorem dX9_chance_88 : decode cX9_chance 88 = .ok (.istore 9, 2) := by decide +kernel
theorem dX9_chance_90 : decode cX9_chance 90 = .ok (.iload 9, 2) := by decide +kernel
theorem dX9_chance_92 : decode cX9_chance 92 = .ok (.bipush 32, 2) := by decide +kernel
theorem dX9_chance_94 : decode cX9_chance 94 = .ok (.if_icmp .ge 47, 3) := by decide +kernel
theorem dX9_chance_97 : decode cX9_chance 97 = .ok (.lload 5, 2) := by decide +kernel
theorem dX9_chance_99 : decode cX9_chance 99 = .ok (.ldc2_w 265, 3) := by decide +kernel
theorem dX9_chance_102 : decode cX9_chance 102 = .ok (.lrem, 1) := by decide +kernel
theorem dX9_chance_103 : decode cX9_chance 103 = .ok (.lconst 0, 1) := by decide +kernel
theorem dX9_chance_104 : decode cX9_chance 104 = .ok (.lcmp, 1) := by decide +kernel
theorem dX9_chance_105 : decode cX9_chance 105 = .ok (.ifCond .ne 36, 3) := by decide +kernel
theorem dX9_chance_108 : decode cX9_chance 108 = .ok (.lload 7, 2) := by decide +kernel
theorem dX9_chance_110 : decode cX9_chance 110 = .ok (.ldc2_w 265, 3) := by decide +kernel
theorem dX9_chance_113 : decode cX9_chance 113 = .ok (.lrem, 1) := by decide +kernel
theorem dX9_chance_114 : decode cX9_chance 114 = .ok (.lconst 0, 1) := by decide +kernel
theorem dX9_chance_115 : decode cX9_chance 115 = .ok (.lcmp, 1) := by decide +kernel
theorem dX9_chance_116 : decode cX9_chance 116 = .ok (.ifCond .ne 25, 3) := by decide +kernel
theorem dX9_chance_119 : decode cX9_chance 119 = .ok (.lload 5, 2) := by decide +kernel
theorem dX9_chance_121 : decode cX9_chance 121 = .ok (.ldc2_w 265, 3) := by decide +kernel
theorem dX9_chance_124 : decode cX9_chance 124 = .ok (.ldiv, 1) := by decide +kernel
theorem dX9_chance_125 : decode cX9_chance 125 = .ok (.lstore 5, 2) := by decide +kernel
theorem dX9_chance_127 : decode cX9_chance 127 = .ok (.lload 7, 2) := by decide +kernel
theorem dX9_chance_129 : decode cX9_chance 129 = .ok (.ldc2_w 265, 3) := by decide +kernel
theorem dX9_chance_132 : decode cX9_chance 132 = .ok (.ldiv, 1) := by decide +kernel
theorem dX9_chance_133 : decode cX9_chance 133 = .ok (.lstore 7, 2) := by decide +kernel
theorem dX9_chance_135 : decode cX9_chance 135 = .ok (.iinc 9 1, 3) := by decide +kernel
theorem dX9_chance_138 : decode cX9_chance 138 = .ok (.goto (-48), 3) := by decide +kernel
theorem dX9_chance_141 : decode cX9_chance 141 = .ok (.iload 4, 2) := by decide +kernel
theorem dX9_chance_143 : decode cX9_chance 143 = .ok (.ifCond .ne 8, 3) := by decide +kernel
theorem dX9_chance_146 : decode cX9_chance 146 = .ok (.lload 5, 2) := by decide +kernel
theorem dX9_chance_148 : decode cX9_chance 148 = .ok (.goto 5, 3) := by decide +kernel
theorem dX9_chance_151 : decode cX9_chance 151 = .ok (.lload 7, 2) := by decide +kernel
theorem dX9_chance_153 : decode cX9_chance 153 = .ok (.lreturn, 1) := by decide +kernel
noncomputable def F9_chance_b141 (v1 : Int32) (v2 : Int32) (v3 : Int32) (v4 : Int32) (a5 : Int64) (a7 : Int64) (M : Mem) : Option (Int64 × Mem) :=
  (if v4 = (0 : Int32) then some (a5, M) else some (a7, M))
noncomputable def F9_chance_p90 (kh : Int64 → Int64 → Int32 → Mem → Option (Int64 × Mem)) (kx141 : Int64 → Int64 → Mem → Option (Int64 × Mem)) (v1 : Int32) (v2 : Int32) (v3 : Int32) (v4 : Int32) (a5 : Int64) (a7 : Int64) (a9 : Int32) (M : Mem) : Option (Int64 × Mem) :=
  (if (32 : Int32) ≤ a9 then kx141 a5 a7 M else (if (lg_cmp (jremL a5 (2 : Int64)) (0 : Int64)) = (0 : Int32) then (if (lg_cmp (jremL a7 (2 : Int64)) (0 : Int64)) = (0 : Int32) then kh (a5 / (2 : Int64)) (a7 / (2 : Int64)) (a9 + (1 : Int32)) M else kx141 a5 a7 M) else kx141 a5 a7 M))
noncomputable def F9_chance_h90 (kx141 : Int64 → Int64 → Mem → Option (Int64 × Mem)) (v1 : Int32) (v2 : Int32) (v3 : Int32) (v4 : Int32) : Nat → Int64 → Int64 → Int32 → Mem → Option (Int64 × Mem)
  | 0, _, _, _, _ => none
  | n + 1, a5, a7, a9, M => F9_chance_p90 (F9_chance_h90 kx141 v1 v2 v3 v4 n) kx141 v1 v2 v3 v4 a5 a7 a9 M
noncomputable def F9_chance (v1 : Int32) (v2 : Int32) (v3 : Int32) (v4 : Int32) (mc : Mem) : Option (Int64 × Mem) :=
  ((F9_in v1 (17 : Int32)).bind (fun q7 => (if q7 = (0 : Int32) then some ((-9223372036854775806 : Int64), mc) else ((F9_in v2 (mc 11 5)).bind (fun q8 => (if q8 = (0 : Int32) then some ((-9223372036854775806 : Int64), mc) else ((F9_in v3 (8 : Int32)).bind (fun q9 => (if q9 = (0 : Int32) then some ((-9223372036854775806 : Int64), mc) else ((F9_in v4 (2 : Int32)).bind (fun q10 => (if q10 = (0 : Int32) then some ((-9223372036854775806 : Int64), mc) else ((F9_heardWeight v1 v2 v3 mc).bind (fun q11 => ((F9_power (16 : Int64) (q11.2 17 3)).bind (fun q12 => (if (lg_cmp q11.1 (0 : Int64)) = (0 : Int32) then (if v4 = (0 : Int32) then some ((0 : Int64), q11.2) else some ((1 : Int64), q11.2)) else (F9_chance_h90 (F9_chance_b141 v1 v2 v3 v4) v1 v2 v3 v4 FU) q11.1 q12 (0 : Int32) q11.2)))))))))))))))))
set_option maxHeartbeats 4000000 in
set_option maxRecDepth 100000 in
theorem kX9_chance (l : Launch) (g : GG) (v1 : Int32) (v2 : Int32) (v3 : Int32) (v4 : Int32) (mc mm : Mem) (q : Int64 × Mem) (hF : F9_chance v1 v2 v3 v4 mc = some q) : KL l yX9_chance cX9_chance 10 3 85 g [.ref (g.1 0), .int v1, .int v2, .int v3, .int v4] mc mm q.1 (q.2, mm) := by
  intro sz
  refine x_start (Qc := fun z => QL g z q.1 (q.2, mm)) (by decide +kernel) (Nat.le_of_ble_eq_true rfl) ?_ sz
  intro p e s m args below meth c ls Z hr hlk hP hl
  have hx := Z.1.1
  have hb := Z.1.2.1
  have hown := Z.1.2.2.2.1
  have hts := Z.1.2.2.2.2
  have hS : va_S (AA g s.heap.size) s.heap s.heap [] := va_S.rf
  have hl : lv_has ls 10 [(0, .ref (g.1 0)), (1, .int v1), (2, .int v2), (3, .int v3), (4, .int v4)] := hl
  unfold F9_chance at hF
  have hb141 : ∀ (a5 : Int64) (a7 : Int64) (M : Mem), F9_chance_b141 v1 v2 v3 v4 a5 a7 M = some q → ∀ (H : Heap) (locs : List Loc) (ls : Array Slot), lv_has ls 10 [(4, .int v4), (5, .long a5), (7, .long a7)] → va_P g.2.2.1 vwCl (wL g M mm) H → va_S (AA g s.heap.size) s.heap H locs → W p l e { frames := 3, cells := 0, slots := 0, locals := 85 } s m args below meth c H locs 0 0 (MQ below (QL g s.heap.size q.1 (q.2, mm)) args s 0 0 (AA g s.heap.size)) (F0 m 141 ls []) := by
    intro a5 a7 M hF H locs ls hl hP hS
    unfold F9_chance_b141 at hF
    refine lv_iload hx hb dX9_chance_141 (lv_at hl 0 rfl) ?_
    refine lv_if_ne (tgt := 151) hx hb dX9_chance_143 rfl (fun hc => ?_) (fun hc => ?_)
    · have hF := (if_neg hc).symm.trans hF
      refine lv_lload hx hb dX9_chance_151 (lv_at hl 2 rfl) ?_
      exact ret_JWC Z hr hlk hP hS hF dX9_chance_153
    · have hF := (if_pos hc).symm.trans hF
      refine lv_lload hx hb dX9_chance_146 (lv_at hl 1 rfl) ?_
      refine lv_goto (tgt := 153) hx hb dX9_chance_148 rfl ?_
      exact ret_JWC Z hr hlk hP hS hF dX9_chance_153
  have hL90 : ∀ (kx141 : Int64 → Int64 → Mem → Option (Int64 × Mem)), (∀ (a5 : Int64) (a7 : Int64) (M : Mem), kx141 a5 a7 M = some q → ∀ (H : Heap) (locs : List Loc) (ls : Array Slot), lv_has ls 10 [(4, .int v4), (5, .long a5), (7, .long a7)] → va_P g.2.2.1 vwCl (wL g M mm) H → va_S (AA g s.heap.size) s.heap H locs → W p l e { frames := 3, cells := 0, slots := 0, locals := 85 } s m args below meth c H locs 0 0 (MQ below (QL g s.heap.size q.1 (q.2, mm)) args s 0 0 (AA g s.heap.size)) (F0 m 141 ls [])) → ∀ n : Nat, ∀ (a5 : Int64) (a7 : Int64) (a9 : Int32) (M : Mem), F9_chance_h90 kx141 v1 v2 v3 v4 n a5 a7 a9 M = some q → ∀ (H : Heap) (locs : List Loc) (ls : Array Slot), lv_has ls 10 [(4, .int v4), (5, .long a5), (7, .long a7), (9, .int a9)] → va_P g.2.2.1 vwCl (wL g M mm) H → va_S (AA g s.heap.size) s.heap H locs → W p l e { frames := 3, cells := 0, slots := 0, locals := 85 } s m args below meth c H locs 0 0 (MQ below (QL g s.heap.size q.1 (q.2, mm)) args s 0 0 (AA g s.heap.size)) (F0 m 90 ls []) := by
    intro kx141 hx141 n
    induction n with
    | zero => intro a5 a7 a9 M hF H locs ls hl hP hS; exact absurd hF (fun z => nomatch (show (none : Option _) = some q from z))
    | succ n ih =>
      generalize hkh : F9_chance_h90 kx141 v1 v2 v3 v4 n = kh at ih
      intro a5 a7 a9 M hF H locs ls hl hP hS
      have hF : F9_chance_p90 (F9_chance_h90 kx141 v1 v2 v3 v4 n) kx141 v1 v2 v3 v4 a5 a7 a9 M = some q := hF
      rw [hkh] at hF
      unfold F9_chance_p90 at hF
      refine lv_iload hx hb dX9_chance_90 (lv_at hl 3 rfl) ?_
      refine lv_bipush (v := (32 : Int32)) hx hb dX9_chance_92 bp_32 ?_
      refine lv_icmp_ge (tgt := 141) hx hb dX9_chance_94 rfl (fun hc => ?_) (fun hc => ?_)
      · have hF := (if_pos hc).symm.trans hF
        exact hx141 _ _ _ hF _ _ _ (lv_sub hl [0, 1, 2] rfl) hP hS
      · have hF := (if_neg hc).symm.trans hF
        refine lv_lload hx hb dX9_chance_97 (lv_at hl 1 rfl) ?_
        refine lv_ldc2 (v := (2 : Int64)) hx hb hown (hts _ wd_37_1) dX9_chance_99 ?_
        refine lv_lrem hx hb dX9_chance_102 (by decide) ?_
        refine lv_lconst (v := (0 : Int64)) hx hb dX9_chance_103 lc_0 ?_
        refine W.lcmp hx hb dX9_chance_104 ?_
        refine lv_if_ne (tgt := 141) hx hb dX9_chance_105 rfl (fun hc => ?_) (fun hc => ?_)
        · have hF := (if_neg hc).symm.trans hF
          exact hx141 _ _ _ hF _ _ _ (lv_sub hl [0, 1, 2] rfl) hP hS
        · have hF := (if_pos hc).symm.trans hF
          refine lv_lload hx hb dX9_chance_108 (lv_at hl 2 rfl) ?_
          refine lv_ldc2 (v := (2 : Int64)) hx hb hown (hts _ wd_37_1) dX9_chance_110 ?_
          refine lv_lrem hx hb dX9_chance_113 (by decide) ?_
          refine lv_lconst (v := (0 : Int64)) hx hb dX9_chance_114 lc_0 ?_
          refine W.lcmp hx hb dX9_chance_115 ?_
          refine lv_if_ne (tgt := 141) hx hb dX9_chance_116 rfl (fun hc => ?_) (fun hc => ?_)
          · have hF := (if_neg hc).symm.trans hF
            exact hx141 _ _ _ hF _ _ _ (lv_sub hl [0, 1, 2] rfl) hP hS
          · have hF := (if_pos hc).symm.trans hF
            refine lv_lload hx hb dX9_chance_119 (lv_at hl 1 rfl) ?_
            refine lv_ldc2 (v := (2 : Int64)) hx hb hown (hts _ wd_37_1) dX9_chance_121 ?_
            refine lv_ldiv hx hb dX9_chance_124 (by decide) ?_
            refine lv_lstore (lv' := [(5, .long (a5 / (2 : Int64))), (4, .int v4), (7, .long a7), (9, .int a9)]) hx hb dX9_chance_125 hl (Nat.le_of_ble_eq_true rfl) rfl (fun ls hl => ?_)
            refine lv_lload hx hb dX9_chance_127 (lv_at hl 2 rfl) ?_
            refine lv_ldc2 (v := (2 : Int64)) hx hb hown (hts _ wd_37_1) dX9_chance_129 ?_
            refine lv_ldiv hx hb dX9_chance_132 (by decide) ?_
            refine lv_lstore (lv' := [(7, .long (a7 / (2 : Int64))), (5, .long (a5 / (2 : Int64))), (4, .int v4), (9, .int a9)]) hx hb dX9_chance_133 hl (Nat.le_of_ble_eq_true rfl) rfl (fun ls hl => ?_)
            refine lv_iinc (lv' := [(9, .int (a9 + (1 : Int32))), (7, .long (a7 / (2 : Int64))), (5, .long (a5 / (2 : Int64))), (4, .int v4)]) (v := (a9 + (1 : Int32))) hx hb dX9_chance_135 hl (k := 3) rfl (io_1 _) (Nat.le_of_ble_eq_true rfl) rfl (fun ls hl => ?_)
            refine lv_goto (tgt := 90) hx hb dX9_chance_138 rfl ?_
            exact ih _ _ _ _ hF _ _ _ (lv_sub hl [3, 2, 1, 0] rfl) hP hS
  refine lv_iload_n hx hb dX9_chance_0 rfl (lv_at hl 1 rfl) ?_
  refine lv_bipush (v := (17 : Int32)) hx hb dX9_chance_1 bp_17 ?_
  obtain ⟨q7, hq7, hF⟩ := bd_ok hF
  refine xX9_in Z hP hS hq7 wd_7_7 hl.1 (Nat.le_of_ble_eq_true rfl) ⟨Nat.le_of_ble_eq_true rfl, Nat.le_of_ble_eq_true rfl⟩ dX9_chance_3 (fun H locs hP hS => ?_)
  refine lv_if_eq (tgt := 41) hx hb dX9_chance_6 rfl (fun hc => ?_) (fun hc => ?_)
  · have hF := (if_pos hc).symm.trans hF
    refine lv_ldc2 (v := (-9223372036854775806 : Int64)) hx hb hown (hts _ wd_36_23) dX9_chance_41 ?_
    exact ret_JWC Z hr hlk hP hS hF dX9_chance_44
  · have hF := (if_neg hc).symm.trans hF
    refine lv_iload_n hx hb dX9_chance_9 rfl (lv_at hl 2 rfl) ?_
    refine lv_aload_n hx hb dX9_chance_10 rfl (lv_at hl 0 rfl) ?_
    refine gf9_2 Z hP wd_1_23 dX9_chance_11 ?_
    refine gf5_5N Z hP ck_11 nf_7 dX9_chance_14 ?_
    obtain ⟨q8, hq8, hF⟩ := bd_ok hF
    refine xX9_in Z hP hS hq8 wd_7_7 hl.1 (Nat.le_of_ble_eq_true rfl) ⟨Nat.le_of_ble_eq_true rfl, Nat.le_of_ble_eq_true rfl⟩ dX9_chance_17 (fun H locs hP hS => ?_)
    refine lv_if_eq (tgt := 41) hx hb dX9_chance_20 rfl (fun hc => ?_) (fun hc => ?_)
    · have hF := (if_pos hc).symm.trans hF
      refine lv_ldc2 (v := (-9223372036854775806 : Int64)) hx hb hown (hts _ wd_36_23) dX9_chance_41 ?_
      exact ret_JWC Z hr hlk hP hS hF dX9_chance_44
    · have hF := (if_neg hc).symm.trans hF
      refine lv_iload_n hx hb dX9_chance_23 rfl (lv_at hl 3 rfl) ?_
      refine lv_bipush (v := (8 : Int32)) hx hb dX9_chance_24 bp_8 ?_
      obtain ⟨q9, hq9, hF⟩ := bd_ok hF
      refine xX9_in Z hP hS hq9 wd_7_7 hl.1 (Nat.le_of_ble_eq_true rfl) ⟨Nat.le_of_ble_eq_true rfl, Nat.le_of_ble_eq_true rfl⟩ dX9_chance_26 (fun H locs hP hS => ?_)
      refine lv_if_eq (tgt := 41) hx hb dX9_chance_29 rfl (fun hc => ?_) (fun hc => ?_)
      · have hF := (if_pos hc).symm.trans hF
        refine lv_ldc2 (v := (-9223372036854775806 : Int64)) hx hb hown (hts _ wd_36_23) dX9_chance_41 ?_
        exact ret_JWC Z hr hlk hP hS hF dX9_chance_44
      · have hF := (if_neg hc).symm.trans hF
        refine lv_iload hx hb dX9_chance_32 (lv_at hl 4 rfl) ?_
        refine lv_iconst (v := (2 : Int32)) hx hb dX9_chance_34 ic_2 ?_
        obtain ⟨q10, hq10, hF⟩ := bd_ok hF
        refine xX9_in Z hP hS hq10 wd_7_7 hl.1 (Nat.le_of_ble_eq_true rfl) ⟨Nat.le_of_ble_eq_true rfl, Nat.le_of_ble_eq_true rfl⟩ dX9_chance_35 (fun H locs hP hS => ?_)
        refine lv_if_ne (tgt := 45) hx hb dX9_chance_38 rfl (fun hc => ?_) (fun hc => ?_)
        · have hF := (if_neg hc).symm.trans hF
          refine lv_aload_n hx hb dX9_chance_45 rfl (lv_at hl 0 rfl) ?_
          refine lv_iload_n hx hb dX9_chance_46 rfl (lv_at hl 1 rfl) ?_
          refine lv_iload_n hx hb dX9_chance_47 rfl (lv_at hl 2 rfl) ?_
          refine lv_iload_n hx hb dX9_chance_48 rfl (lv_at hl 3 rfl) ?_
          obtain ⟨q11, hq11, hF⟩ := bd_ok hF
          refine xX9_heardWeight Z hP hS hq11 wd_37_2 hl.1 (Nat.le_of_ble_eq_true rfl) ⟨Nat.le_of_ble_eq_true rfl, Nat.le_of_ble_eq_true rfl⟩ dX9_chance_49 (fun H locs hP hS => ?_)
          refine lv_lstore (lv' := [(5, .long q11.1), (0, .ref (g.1 0)), (1, .int v1), (2, .int v2), (3, .int v3), (4, .int v4)]) hx hb dX9_chance_52 hl (Nat.le_of_ble_eq_true rfl) rfl (fun ls hl => ?_)
          refine lv_ldc2 (v := (16 : Int64)) hx hb hown (hts _ wd_37_0) dX9_chance_54 ?_
          refine lv_aload_n hx hb dX9_chance_57 rfl (lv_at hl 1 rfl) ?_
          refine gf9_3 Z hP wd_2_3 dX9_chance_58 ?_
          refine gf2_3N Z hP ck_17 nf_12 dX9_chance_61 ?_
          obtain ⟨q12, hq12, hF⟩ := bd_ok hF
          refine xX9_power Z hP hS hq12 wd_37_6 hl.1 (Nat.le_of_ble_eq_true rfl) ⟨Nat.le_of_ble_eq_true rfl, Nat.le_of_ble_eq_true rfl⟩ dX9_chance_64 (fun H locs hP hS => ?_)
          refine lv_lstore (lv' := [(7, .long q12), (5, .long q11.1), (0, .ref (g.1 0)), (1, .int v1), (2, .int v2), (3, .int v3), (4, .int v4)]) hx hb dX9_chance_67 hl (Nat.le_of_ble_eq_true rfl) rfl (fun ls hl => ?_)
          refine lv_lload hx hb dX9_chance_69 (lv_at hl 1 rfl) ?_
          refine lv_lconst (v := (0 : Int64)) hx hb dX9_chance_71 lc_0 ?_
          refine W.lcmp hx hb dX9_chance_72 ?_
          refine lv_if_ne (tgt := 87) hx hb dX9_chance_73 rfl (fun hc => ?_) (fun hc => ?_)
          · have hF := (if_neg hc).symm.trans hF
            refine lv_iconst (v := (0 : Int32)) hx hb dX9_chance_87 ic_0 ?_
            refine lv_istore (lv' := [(9, .int (0 : Int32)), (7, .long q12), (5, .long q11.1), (0, .ref (g.1 0)), (1, .int v1), (2, .int v2), (3, .int v3), (4, .int v4)]) hx hb dX9_chance_88 hl (Nat.le_of_ble_eq_true rfl) rfl (fun ls hl => ?_)
            exact (hL90 _ hb141 FU) _ _ _ _ hF _ _ _ (lv_sub hl [7, 2, 1, 0] rfl) hP hS
          · have hF := (if_pos hc).symm.trans hF
            refine lv_iload hx hb dX9_chance_76 (lv_at hl 6 rfl) ?_
            refine lv_if_ne (tgt := 85) hx hb dX9_chance_78 rfl (fun hc => ?_) (fun hc => ?_)
            · have hF := (if_neg hc).symm.trans hF
              refine lv_lconst (v := (1 : Int64)) hx hb dX9_chance_85 lc_1 ?_
              exact ret_JWC Z hr hlk hP hS hF dX9_chance_86
            · have hF := (if_pos hc).symm.trans hF
              refine lv_lconst (v := (0 : Int64)) hx hb dX9_chance_81 lc_0 ?_
              refine lv_goto (tgt := 86) hx hb dX9_chance_82 rfl ?_
              exact ret_JWC Z hr hlk hP hS hF dX9_chance_86
        · have hF := (if_pos hc).symm.trans hF
          refine lv_ldc2 (v := (-9223372036854775806 : Int64)) hx hb hown (hts _ wd_36_23) dX9_chance_41 ?_
          exact ret_JWC Z hr hlk hP hS hF dX9_chance_44
theorem xX9_chance {p : Program} {l : Launch} {e : Env} {R : Room} {s : State} {m : MethodId} {args : Array Value} {below : List Frame} {meth : Method} {c : Code} {H : Heap} {locs : List Loc} {Q : State → Prop} {cc : ByteArray} {nL : Nat} {own : String} {g : GG} {pc index : Nat} {ls : Array Slot} {rest : List Value} {mc mm : Mem} (Z : ZZ p s m args c cc nL own g) (hP : va_P g.2.2.1 vwCl (wL g mc mm) H) (hS : va_S (AA g s.heap.size) s.heap H locs) {v1 : Int32} {v2 : Int32} {v3 : Int32} {v4 : Int32} {q : Int64 × Mem} (hq : F9_chance v1 v2 v3 v4 mc = some q) (hlk : Cond.methodLink own index yX9_chance ∈ wsL_law) (hsz : ls.size = nL) (hro : (rest.map fun v => v.category).sum ≤ 8) (hR : 3 + 1 ≤ R.frames ∧ 8 + (10 + 11) + 85 ≤ R.locals) (hdg : decode cc pc = .ok (.invokevirtual index, 3)) (kk : ∀ (H : Heap) (locs : List Loc), va_P g.2.2.1 vwCl (wL g q.2 mm) H → va_S (AA g s.heap.size) s.heap H locs → W p l e R s m args below meth c H locs 0 0 Q (F0 m (pc + 3) ls (.long q.1 :: rest))) : W p l e R s m args below meth c H locs 0 0 Q (F0 m pc ls (.int v4 :: .int v3 :: .int v2 :: .int v1 :: .ref (g.1 0) :: rest)) :=
  x_VL Z hP hS (kX9_chance l g v1 v2 v3 v4 mc mm q hq) (isO_w ck_0) (ci := 9) (by decide) rfl rfl mf_X9_chance mv_X9_chance hlk rfl rfl hsz hro hR hdg kk
theorem dX9_nextSeed_0 : decode cX9_nextSeed 0 = .ok (.ldc_w 429, 3) := by decide +kernel
theorem dX9_nextSeed_3 : decode cX9_nextSeed 3 = .ok (.iload_n 0, 1) := by decide +kernel
theorem dX9_nextSeed_4 : decode cX9_nextSeed 4 = .ok (.imul, 1) := by decide +kernel
theorem dX9_nextSeed_5 : decode cX9_nextSeed 5 = .ok (.sipush 12345, 3) := by decide +kernel
theorem dX9_nextSeed_8 : decode cX9_nextSeed 8 = .ok (.iadd, 1) := by decide +kernel
theorem dX9_nextSeed_9 : decode cX9_nextSeed 9 = .ok (.ireturn, 1) := by decide +kernel
noncomputable def F9_nextSeed (v0 : Int32) : Option (Int32) :=
  some (((1103515245 : Int32) * v0) + (12345 : Int32))
set_option maxHeartbeats 4000000 in
set_option maxRecDepth 100000 in
theorem kX9_nextSeed (l : Launch) (g : GG) (v0 : Int32) (mc mm : Mem) (q : Int32) (hF : F9_nextSeed v0 = some q) : KI l yX9_nextSeed cX9_nextSeed 1 .int 0 0 g [.int v0] mc mm q (mc, mm) := by
  intro sz
  refine x_start (Qc := fun z => QI g z q (mc, mm)) (by decide +kernel) (Nat.le_of_ble_eq_true rfl) ?_ sz
  intro p e s m args below meth c ls Z hr hlk hP hl
  have hx := Z.1.1
  have hb := Z.1.2.1
  have hown := Z.1.2.2.2.1
  have hts := Z.1.2.2.2.2
  have hS : va_S (AA g s.heap.size) s.heap s.heap [] := va_S.rf
  have hl : lv_has ls 1 [(0, .int v0)] := hl
  unfold F9_nextSeed at hF
  refine lv_ldcw (v := (1103515245 : Int32)) hx hb hown (hts _ wd_38_12) dX9_nextSeed_0 ?_
  refine lv_iload_n hx hb dX9_nextSeed_3 rfl (lv_at hl 0 rfl) ?_
  refine lv_imul hx hb dX9_nextSeed_4 ?_
  refine lv_sipush (v := (12345 : Int32)) hx hb dX9_nextSeed_5 sp_12345 ?_
  refine lv_iadd hx hb dX9_nextSeed_8 ?_
  exact ret_I Z hr hlk hP hS hF dX9_nextSeed_9
theorem xX9_nextSeed {p : Program} {l : Launch} {e : Env} {R : Room} {s : State} {m : MethodId} {args : Array Value} {below : List Frame} {meth : Method} {c : Code} {H : Heap} {locs : List Loc} {Q : State → Prop} {cc : ByteArray} {nL : Nat} {own : String} {g : GG} {pc index : Nat} {ls : Array Slot} {rest : List Value} {mc mm : Mem} (Z : ZZ p s m args c cc nL own g) (hP : va_P g.2.2.1 vwCl (wL g mc mm) H) (hS : va_S (AA g s.heap.size) s.heap H locs) {v0 : Int32} {q : Int32} (hq : F9_nextSeed v0 = some q) (hlk : Cond.methodLink own index yX9_nextSeed ∈ wsL_law) (hsz : ls.size = nL) (hro : (rest.map fun v => v.category).sum ≤ 8) (hR : 0 + 1 ≤ R.frames ∧ 8 + (1 + 11) + 0 ≤ R.locals) (hdg : decode cc pc = .ok (.invokestatic index, 3)) (kk : ∀ (H : Heap) (locs : List Loc), va_P g.2.2.1 vwCl (wL g mc mm) H → va_S (AA g s.heap.size) s.heap H locs → W p l e R s m args below meth c H locs 0 0 Q (F0 m (pc + 3) ls (.int q :: rest))) : W p l e R s m args below meth c H locs 0 0 Q (F0 m pc ls (.int v0 :: rest)) :=
  x_SI Z hP hS (kX9_nextSeed l g v0 mc mm q hq) mf_X9_nextSeed wd_38_10 hlk rfl rfl hsz hro hR hdg kk
theorem dX9_lot_0 : decode cX9_lot 0 = .ok (.iload_n 1, 1) := by decide +kernel
theorem dX9_lot_1 : decode cX9_lot 1 = .ok (.ifCond .le 12, 3) := by decide +kernel
theorem dX9_lot_4 : decode cX9_lot 4 = .ok (.iload_n 0, 1) := by decide +kernel
theorem dX9_lot_5 : decode cX9_lot 5 = .ok (.bipush 16, 2) := by decide +kernel
theorem dX9_lot_7 : decode cX9_lot 7 = .ok (.iushr, 1) := by decide +kernel
theorem dX9_lot_8 : decode cX9_lot 8 = .ok (.iload_n 1, 1) := by decide +kernel
theorem dX9_lot_9 : decode cX9_lot 9 = .ok (.irem, 1) := by decide +kernel
theorem dX9_lot_10 : decode cX9_lot 10 = .ok (.goto 4, 3) := by decide +kernel
theorem dX9_lot_13 : decode cX9_lot 13 = .ok (.iconst 0, 1) := by decide +kernel
theorem dX9_lot_14 : decode cX9_lot 14 = .ok (.ireturn, 1) := by decide +kernel
noncomputable def F9_lot (v0 : Int32) (v1 : Int32) : Option (Int32) :=
  (if v1 ≤ (0 : Int32) then some (0 : Int32) else (nz v1 (some (jrem (jushr v0 (16 : Int32)) v1))))
set_option maxHeartbeats 4000000 in
set_option maxRecDepth 100000 in
theorem kX9_lot (l : Launch) (g : GG) (v0 : Int32) (v1 : Int32) (mc mm : Mem) (q : Int32) (hF : F9_lot v0 v1 = some q) : KI l yX9_lot cX9_lot 2 .int 0 0 g [.int v0, .int v1] mc mm q (mc, mm) := by
  intro sz
  refine x_start (Qc := fun z => QI g z q (mc, mm)) (by decide +kernel) (Nat.le_of_ble_eq_true rfl) ?_ sz
  intro p e s m args below meth c ls Z hr hlk hP hl
  have hx := Z.1.1
  have hb := Z.1.2.1
  have hown := Z.1.2.2.2.1
  have hts := Z.1.2.2.2.2
  have hS : va_S (AA g s.heap.size) s.heap s.heap [] := va_S.rf
  have hl : lv_has ls 2 [(0, .int v0), (1, .int v1)] := hl
  unfold F9_lot at hF
  refine lv_iload_n hx hb dX9_lot_0 rfl (lv_at hl 1 rfl) ?_
  refine lv_if_le (tgt := 13) hx hb dX9_lot_1 rfl (fun hc => ?_) (fun hc => ?_)
  · have hF := (if_pos hc).symm.trans hF
    refine lv_iconst (v := (0 : Int32)) hx hb dX9_lot_13 ic_0 ?_
    exact ret_I Z hr hlk hP hS hF dX9_lot_14
  · have hF := (if_neg hc).symm.trans hF
    refine lv_iload_n hx hb dX9_lot_4 rfl (lv_at hl 0 rfl) ?_
    refine lv_bipush (v := (16 : Int32)) hx hb dX9_lot_5 bp_16 ?_
    refine lv_iushr (v := (jushr v0 (16 : Int32))) hx hb dX9_lot_7 rfl ?_
    refine lv_iload_n hx hb dX9_lot_8 rfl (lv_at hl 1 rfl) ?_
    obtain ⟨hnz, hF⟩ := nz_ok hF
    refine lv_irem hx hb dX9_lot_9 hnz ?_
    refine lv_goto (tgt := 14) hx hb dX9_lot_10 rfl ?_
    exact ret_I Z hr hlk hP hS hF dX9_lot_14
theorem xX9_lot {p : Program} {l : Launch} {e : Env} {R : Room} {s : State} {m : MethodId} {args : Array Value} {below : List Frame} {meth : Method} {c : Code} {H : Heap} {locs : List Loc} {Q : State → Prop} {cc : ByteArray} {nL : Nat} {own : String} {g : GG} {pc index : Nat} {ls : Array Slot} {rest : List Value} {mc mm : Mem} (Z : ZZ p s m args c cc nL own g) (hP : va_P g.2.2.1 vwCl (wL g mc mm) H) (hS : va_S (AA g s.heap.size) s.heap H locs) {v0 : Int32} {v1 : Int32} {q : Int32} (hq : F9_lot v0 v1 = some q) (hlk : Cond.methodLink own index yX9_lot ∈ wsL_law) (hsz : ls.size = nL) (hro : (rest.map fun v => v.category).sum ≤ 8) (hR : 0 + 1 ≤ R.frames ∧ 8 + (2 + 11) + 0 ≤ R.locals) (hdg : decode cc pc = .ok (.invokestatic index, 3)) (kk : ∀ (H : Heap) (locs : List Loc), va_P g.2.2.1 vwCl (wL g mc mm) H → va_S (AA g s.heap.size) s.heap H locs → W p l e R s m args below meth c H locs 0 0 Q (F0 m (pc + 3) ls (.int q :: rest))) : W p l e R s m args below meth c H locs 0 0 Q (F0 m pc ls (.int v1 :: .int v0 :: rest)) :=
  x_SI Z hP hS (kX9_lot l g v0 v1 mc mm q hq) mf_X9_lot wd_38_14 hlk rfl rfl hsz hro hR hdg kk

theorem dX10_comes_0 : decode cX10_comes 0 = .ok (.aload_n 0, 1) := by decide +kernel
theorem dX10_comes_1 : decode cX10_comes 1 = .ok (.getfield 37, 3) := by decide +kernel
theorem dX10_comes_4 : decode cX10_comes 4 = .ok (.iload_n 2, 1) := by decide +kernel
theorem dX10_comes_5 : decode cX10_comes 5 = .ok (.iload_n 3, 1) := by decide +kernel
theorem dX10_comes_6 : decode cX10_comes 6 = .ok (.iastore, 1) := by decide +kernel
theorem dX10_comes_7 : decode cX10_comes 7 = .ok (.aload_n 0, 1) := by decide +kernel
theorem dX10_comes_8 : decode cX10_comes 8 = .ok (.getfield 40, 3) := by decide +kernel
theorem dX10_comes_11 : decode cX10_comes 11 = .ok (.iload_n 2, 1) := by decide +kernel
theorem dX10_comes_12 : decode cX10_comes 12 = .ok (.iload_n 1, 1) := by decide +kernel
theorem dX10_comes_13 : decode cX10_comes 13 = .ok (.iastore, 1) := by decide +kernel
theorem dX10_comes_14 : decode cX10_comes 14 = .ok (.aload_n 0, 1) := by decide +kernel
theorem dX10_comes_15 : decode cX10_comes 15 = .ok (.getfield 43, 3) := by decide +kernel
theorem dX10_comes_18 : decode cX10_comes 18 = .ok (.iload_n 2, 1) := by decide +kernel
theorem dX10_comes_19 : decode cX10_comes 19 = .ok (.dup2, 1) := by decide +kernel
theorem dX10_comes_20 : decode cX10_comes 20 = .ok (.iaload, 1) := by decide +kernel
theorem dX10_comes_21 : decode cX10_comes 21 = .ok (.iconst 1, 1) := by decide +kernel
theorem dX10_comes_22 : decode cX10_comes 22 = .ok (.iadd, 1) := by decide +kernel
theorem dX10_comes_23 : decode cX10_comes 23 = .ok (.iastore, 1) := by decide +kernel
theorem dX10_comes_24 : decode cX10_comes 24 = .ok (.aload_n 0, 1) := by decide +kernel
theorem dX10_comes_25 : decode cX10_comes 25 = .ok (.getfield 43, 3) := by decide +kernel
theorem dX10_comes_28 : decode cX10_comes 28 = .ok (.iload_n 2, 1) := by decide +kernel
theorem dX10_comes_29 : decode cX10_comes 29 = .ok (.iaload, 1) := by decide +kernel
theorem dX10_comes_30 : decode cX10_comes 30 = .ok (.iconst 2, 1) := by decide +kernel
theorem dX10_comes_31 : decode cX10_comes 31 = .ok (.irem, 1) := by decide +kernel
theorem dX10_comes_32 : decode cX10_comes 32 = .ok (.ifCond .ne 38, 3) := by decide +kernel
theorem dX10_comes_35 : decode cX10_comes 35 = .ok (.aload_n 0, 1) := by decide +kernel
theorem dX10_comes_36 : decode cX10_comes 36 = .ok (.getfield 31, 3) := by decide +kernel
theorem dX10_comes_39 : decode cX10_comes 39 = .ok (.bipush 8, 2) := by decide +kernel
theorem dX10_comes_41 : decode cX10_comes 41 = .ok (.iload_n 2, 1) := by decide +kernel
theorem dX10_comes_42 : decode cX10_comes 42 = .ok (.imul, 1) := by decide +kernel
theorem dX10_comes_43 : decode cX10_comes 43 = .ok (.iconst 2, 1) := by decide +kernel
theorem dX10_comes_44 : decode cX10_comes 44 = .ok (.iadd, 1) := by decide +kernel
theorem dX10_comes_45 : decode cX10_comes 45 = .ok (.iaload, 1) := by decide +kernel
theorem dX10_comes_46 : decode cX10_comes 46 = .ok (.iconst 1, 1) := by decide +kernel
theorem dX10_comes_47 : decode cX10_comes 47 = .ok (.if_icmp .ne 23, 3) := by decide +kernel
theorem dX10_comes_50 : decode cX10_comes 50 = .ok (.aload_n 0, 1) := by decide +kernel
theorem dX10_comes_51 : decode cX10_comes 51 = .ok (.getfield 46, 3) := by decide +kernel
theorem dX10_comes_54 : decode cX10_comes 54 = .ok (.iload_n 2, 1) := by decide +kernel
theorem dX10_comes_55 : decode cX10_comes 55 = .ok (.dup2, 1) := by decide +kernel
theorem dX10_comes_56 : decode cX10_comes 56 = .ok (.iaload, 1) := by decide +kernel
theorem dX10_comes_57 : decode cX10_comes 57 = .ok (.iconst 1, 1) := by decide +kernel
theorem dX10_comes_58 : decode cX10_comes 58 = .ok (.iadd, 1) := by decide +kernel
theorem dX10_comes_59 : decode cX10_comes 59 = .ok (.iastore, 1) := by decide +kernel
theorem dX10_comes_60 : decode cX10_comes 60 = .ok (.aload_n 0, 1) := by decide +kernel
theorem dX10_comes_61 : decode cX10_comes 61 = .ok (.getfield 49, 3) := by decide +kernel
theorem dX10_comes_64 : decode cX10_comes 64 = .ok (.iload_n 2, 1) := by decide +kernel
theorem dX10_comes_65 : decode cX10_comes 65 = .ok (.dup2, 1) := by decide +kernel
theorem dX10_comes_66 : decode cX10_comes 66 = .ok (.iaload, 1) := by decide +kernel
theorem dX10_comes_67 : decode cX10_comes 67 = .ok (.iconst 1, 1) := by decide +kernel
theorem dX10_comes_68 : decode cX10_comes 68 = .ok (.isub, 1) := by decide +kernel
theorem dX10_comes_69 : decode cX10_comes 69 = .ok (.iastore, 1) := by decide +kernel
theorem dX10_comes_70 : decode cX10_comes 70 = .ok (.aload_n 0, 1) := by decide +kernel
theorem dX10_comes_71 : decode cX10_comes 71 = .ok (.getfield 49, 3) := by decide +kernel
theorem dX10_comes_74 : decode cX10_comes 74 = .ok (.iload_n 2, 1) := by decide +kernel
theorem dX10_comes_75 : decode cX10_comes 75 = .ok (.dup2, 1) := by decide +kernel
theorem dX10_comes_76 : decode cX10_comes 76 = .ok (.iaload, 1) := by decide +kernel
theorem dX10_comes_77 : decode cX10_comes 77 = .ok (.aload_n 0, 1) := by decide +kernel
theorem dX10_comes_78 : decode cX10_comes 78 = .ok (.getfield 28, 3) := by decide +kernel
theorem dX10_comes_81 : decode cX10_comes 81 = .ok (.iconst 2, 1) := by decide +kernel
theorem dX10_comes_82 : decode cX10_comes 82 = .ok (.iload_n 3, 1) := by decide +kernel
theorem dX10_comes_83 : decode cX10_comes 83 = .ok (.imul, 1) := by decide +kernel
theorem dX10_comes_84 : decode cX10_comes 84 = .ok (.iaload, 1) := by decide +kernel
theorem dX10_comes_85 : decode cX10_comes 85 = .ok (.iconst 1, 1) := by decide +kernel
theorem dX10_comes_86 : decode cX10_comes 86 = .ok (.if_icmp .ne 7, 3) := by decide +kernel
theorem dX10_comes_89 : decode cX10_comes 89 = .ok (.iconst 1, 1) := by decide +kernel
theorem dX10_comes_90 : decode cX10_comes 90 = .ok (.goto 4, 3) := by decide +kernel
theorem dX10_comes_93 : decode cX10_comes 93 = .ok (.iconst 0, 1) := by decide +kernel
theorem dX10_comes_94 : decode cX10_comes 94 = .ok (.isub, 1) := by decide +kernel
theorem dX10_comes_95 : decode cX10_comes 95 = .ok (.iastore, 1) := by decide +kernel
theorem dX10_comes_96 : decode cX10_comes 96 = .ok (.aload_n 0, 1) := by decide +kernel
theorem dX10_comes_97 : decode cX10_comes 97 = .ok (.getfield 49, 3) := by decide +kernel
theorem dX10_comes_100 : decode cX10_comes 100 = .ok (.iload_n 2, 1) := by decide +kernel
theorem dX10_comes_101 : decode cX10_comes 101 = .ok (.iaload, 1) := by decide +kernel
theorem dX10_comes_102 : decode cX10_comes 102 = .ok (.iconst 1, 1) := by decide +kernel
theorem dX10_comes_103 : decode cX10_comes 103 = .ok (.if_icmp .ge 10, 3) := by decide +kernel
theorem dX10_comes_106 : decode cX10_comes 106 = .ok (.aload_n 0, 1) := by decide +kernel
theorem dX10_comes_107 : decode cX10_comes 107 = .ok (.iload_n 2, 1) := by decide +kernel
theorem dX10_comes_108 : decode cX10_comes 108 = .ok (.invokevirtual 197, 3) := by decide +kernel
theorem dX10_comes_111 : decode cX10_comes 111 = .ok (.iconst 0, 1) := by decide +kernel
theorem dX10_comes_112 : decode cX10_comes 112 = .ok (.ireturn, 1) := by decide +kernel
theorem dX10_comes_113 : decode cX10_comes 113 = .ok (.iconst 1, 1) := by decide +kernel
theorem dX10_comes_114 : decode cX10_comes 114 = .ok (.ireturn, 1) := by decide +kernel
noncomputable def F10_comes_b94 (v1 : Int32) (v2 : Int32) (v3 : Int32) (s1 : Int32) (s2 : Int32) (s3 : Int32) (M : Mem) : Option (Int32 × Mem) :=
  (ck s1 8 (lt (mset M 14 s1.toNatClampNeg (s2 - s3)) (fun M21 => (ck v2 8 (if (1 : Int32) ≤ (M21 14 v2.toNatClampNeg) then some ((1 : Int32), M21) else ((F10_loses v2 M21).bind (fun q23 => (some ((0 : Int32), q23)))))))))
noncomputable def F10_comes_b70 (v1 : Int32) (v2 : Int32) (v3 : Int32) (M : Mem) : Option (Int32 × Mem) :=
  (ck v2 8 (ck ((2 : Int32) * v3) 16 (if (M 7 ((2 : Int32) * v3).toNatClampNeg) = (1 : Int32) then (F10_comes_b94 v1 v2 v3) v2 (M 14 v2.toNatClampNeg) (1 : Int32) M else (F10_comes_b94 v1 v2 v3) v2 (M 14 v2.toNatClampNeg) (0 : Int32) M)))
noncomputable def F10_comes (v1 : Int32) (v2 : Int32) (v3 : Int32) (mm : Mem) : Option (Int32 × Mem) :=
  (ck v2 8 (ck v2 8 (lt (mset (mset mm 10 v2.toNatClampNeg v3) 11 v2.toNatClampNeg v1) (fun M28 => (ck v2 8 (ck v2 8 (lt (mset M28 12 v2.toNatClampNeg ((M28 12 v2.toNatClampNeg) + (1 : Int32))) (fun M31 => (ck v2 8 (if (jrem (M31 12 v2.toNatClampNeg) (2 : Int32)) = (0 : Int32) then (ck (((8 : Int32) * v2) + (2 : Int32)) 64 (if (M31 8 (((8 : Int32) * v2) + (2 : Int32)).toNatClampNeg) = (1 : Int32) then (ck v2 8 (ck v2 8 (lt (mset M31 13 v2.toNatClampNeg ((M31 13 v2.toNatClampNeg) + (1 : Int32))) (fun M36 => (ck v2 8 (ck v2 8 ((F10_comes_b70 v1 v2 v3) (mset M36 14 v2.toNatClampNeg ((M36 14 v2.toNatClampNeg) - (1 : Int32)))))))))) else (F10_comes_b70 v1 v2 v3) M31)) else (F10_comes_b70 v1 v2 v3) M31))))))))))
set_option maxHeartbeats 4000000 in
set_option maxRecDepth 100000 in
theorem kX10_comes (l : Launch) (g : GG) (v1 : Int32) (v2 : Int32) (v3 : Int32) (mc mm : Mem) (q : Int32 × Mem) (hF : F10_comes v1 v2 v3 mm = some q) : KI l yX10_comes cX10_comes 4 .boolean 1 21 g [.ref (g.1 108), .int v1, .int v2, .int v3] mc mm q.1 (mc, q.2) := by
  intro sz
  refine x_start (Qc := fun z => QI g z q.1 (mc, q.2)) (by decide +kernel) (Nat.le_of_ble_eq_true rfl) ?_ sz
  intro p e s m args below meth c ls Z hr hlk hP hl
  have hx := Z.1.1
  have hb := Z.1.2.1
  have hown := Z.1.2.2.2.1
  have hts := Z.1.2.2.2.2
  have hS : va_S (AA g s.heap.size) s.heap s.heap [] := va_S.rf
  have hl : lv_has ls 4 [(0, .ref (g.1 108)), (1, .int v1), (2, .int v2), (3, .int v3)] := hl
  unfold F10_comes at hF
  have hb94 : ∀ (s1 : Int32) (s2 : Int32) (s3 : Int32) (M : Mem), F10_comes_b94 v1 v2 v3 s1 s2 s3 M = some q → ∀ (H : Heap) (locs : List Loc) (ls : Array Slot), lv_has ls 4 [(0, .ref (g.1 108)), (2, .int v2)] → va_P g.2.2.1 vwCl (wL g mc M) H → va_S (AA g s.heap.size) s.heap H locs → W p l e { frames := 1, cells := 0, slots := 0, locals := 21 } s m args below meth c H locs 0 0 (MQ below (QI g s.heap.size q.1 (mc, q.2)) args s 0 0 (AA g s.heap.size)) (F0 m 94 ls [.int s3, .int s2, .int s1, .ref (g.1 122)]) := by
    intro s1 s2 s3 M hF H locs ls hl hP hS
    unfold F10_comes_b94 at hF
    refine lv_isub hx hb dX10_comes_94 ?_
    obtain ⟨hi20, hF⟩ := ck_ok hF
    refine rM_st Z hP hS 8 14 (by decide +kernel) hi20 dX10_comes_95 (fun H locs hP hS => ?_)
    refine lv_aload_n hx hb dX10_comes_96 rfl (lv_at hl 0 rfl) ?_
    refine gf10_20 Z hP wd_6_17 dX10_comes_97 ?_
    refine lv_iload_n hx hb dX10_comes_100 rfl (lv_at hl 1 rfl) ?_
    obtain ⟨M21, eM21, hF⟩ := lt_ok hF
    have hP : va_P g.2.2.1 vwCl (wL g mc M21) H := by rw [eM21]; exact hP
    obtain ⟨hi22, hF⟩ := ck_ok hF
    refine rM_ld Z hP 8 14 (by decide +kernel) hi22 dX10_comes_101 ?_
    refine lv_iconst (v := (1 : Int32)) hx hb dX10_comes_102 ic_1 ?_
    refine lv_icmp_ge (tgt := 113) hx hb dX10_comes_103 rfl (fun hc => ?_) (fun hc => ?_)
    · have hF := (if_pos hc).symm.trans hF
      refine lv_iconst (v := (1 : Int32)) hx hb dX10_comes_113 ic_1 ?_
      exact ret_ZWM Z hr hlk hP hS (Or.inr rfl) hF dX10_comes_114
    · have hF := (if_neg hc).symm.trans hF
      refine lv_aload_n hx hb dX10_comes_106 rfl (lv_at hl 0 rfl) ?_
      refine lv_iload_n hx hb dX10_comes_107 rfl (lv_at hl 1 rfl) ?_
      obtain ⟨q23, hq23, hF⟩ := bd_ok hF
      refine xX10_loses Z hP hS hq23 wd_23_5 hl.1 (Nat.le_of_ble_eq_true rfl) ⟨Nat.le_of_ble_eq_true rfl, Nat.le_of_ble_eq_true rfl⟩ dX10_comes_108 (fun H locs hP hS => ?_)
      refine lv_iconst (v := (0 : Int32)) hx hb dX10_comes_111 ic_0 ?_
      exact ret_ZWM Z hr hlk hP hS (Or.inl rfl) hF dX10_comes_112
  have hb70 : ∀  (M : Mem), F10_comes_b70 v1 v2 v3 M = some q → ∀ (H : Heap) (locs : List Loc) (ls : Array Slot), lv_has ls 4 [(0, .ref (g.1 108)), (2, .int v2), (3, .int v3)] → va_P g.2.2.1 vwCl (wL g mc M) H → va_S (AA g s.heap.size) s.heap H locs → W p l e { frames := 1, cells := 0, slots := 0, locals := 21 } s m args below meth c H locs 0 0 (MQ below (QI g s.heap.size q.1 (mc, q.2)) args s 0 0 (AA g s.heap.size)) (F0 m 70 ls []) := by
    intro M hF H locs ls hl hP hS
    unfold F10_comes_b70 at hF
    refine lv_aload_n hx hb dX10_comes_70 rfl (lv_at hl 0 rfl) ?_
    refine gf10_20 Z hP wd_6_17 dX10_comes_71 ?_
    refine lv_iload_n hx hb dX10_comes_74 rfl (lv_at hl 1 rfl) ?_
    refine lv_dup2_11 hx hb dX10_comes_75 rfl rfl ?_
    obtain ⟨hi24, hF⟩ := ck_ok hF
    refine rM_ld Z hP 8 14 (by decide +kernel) hi24 dX10_comes_76 ?_
    refine lv_aload_n hx hb dX10_comes_77 rfl (lv_at hl 0 rfl) ?_
    refine gf10_8 Z hP wd_6_10 dX10_comes_78 ?_
    refine lv_iconst (v := (2 : Int32)) hx hb dX10_comes_81 ic_2 ?_
    refine lv_iload_n hx hb dX10_comes_82 rfl (lv_at hl 2 rfl) ?_
    refine lv_imul hx hb dX10_comes_83 ?_
    obtain ⟨hi25, hF⟩ := ck_ok hF
    refine rM_ld Z hP 16 7 (by decide +kernel) hi25 dX10_comes_84 ?_
    refine lv_iconst (v := (1 : Int32)) hx hb dX10_comes_85 ic_1 ?_
    refine lv_icmp_ne (tgt := 93) hx hb dX10_comes_86 rfl (fun hc => ?_) (fun hc => ?_)
    · have hF := (if_neg hc).symm.trans hF
      refine lv_iconst (v := (0 : Int32)) hx hb dX10_comes_93 ic_0 ?_
      exact hb94 _ _ _ _ hF _ _ _ (lv_sub hl [0, 1] rfl) hP hS
    · have hF := (if_pos hc).symm.trans hF
      refine lv_iconst (v := (1 : Int32)) hx hb dX10_comes_89 ic_1 ?_
      refine lv_goto (tgt := 94) hx hb dX10_comes_90 rfl ?_
      exact hb94 _ _ _ _ hF _ _ _ (lv_sub hl [0, 1] rfl) hP hS
  refine lv_aload_n hx hb dX10_comes_0 rfl (lv_at hl 0 rfl) ?_
  refine gf10_16 Z hP wd_6_13 dX10_comes_1 ?_
  refine lv_iload_n hx hb dX10_comes_4 rfl (lv_at hl 2 rfl) ?_
  refine lv_iload_n hx hb dX10_comes_5 rfl (lv_at hl 3 rfl) ?_
  obtain ⟨hi26, hF⟩ := ck_ok hF
  refine rM_st Z hP hS 8 10 (by decide +kernel) hi26 dX10_comes_6 (fun H locs hP hS => ?_)
  refine lv_aload_n hx hb dX10_comes_7 rfl (lv_at hl 0 rfl) ?_
  refine gf10_17 Z hP wd_6_14 dX10_comes_8 ?_
  refine lv_iload_n hx hb dX10_comes_11 rfl (lv_at hl 2 rfl) ?_
  refine lv_iload_n hx hb dX10_comes_12 rfl (lv_at hl 1 rfl) ?_
  obtain ⟨hi27, hF⟩ := ck_ok hF
  refine rM_st Z hP hS 8 11 (by decide +kernel) hi27 dX10_comes_13 (fun H locs hP hS => ?_)
  refine lv_aload_n hx hb dX10_comes_14 rfl (lv_at hl 0 rfl) ?_
  refine gf10_18 Z hP wd_6_15 dX10_comes_15 ?_
  refine lv_iload_n hx hb dX10_comes_18 rfl (lv_at hl 2 rfl) ?_
  refine lv_dup2_11 hx hb dX10_comes_19 rfl rfl ?_
  obtain ⟨M28, eM28, hF⟩ := lt_ok hF
  have hP : va_P g.2.2.1 vwCl (wL g mc M28) H := by rw [eM28]; exact hP
  obtain ⟨hi29, hF⟩ := ck_ok hF
  refine rM_ld Z hP 8 12 (by decide +kernel) hi29 dX10_comes_20 ?_
  refine lv_iconst (v := (1 : Int32)) hx hb dX10_comes_21 ic_1 ?_
  refine lv_iadd hx hb dX10_comes_22 ?_
  obtain ⟨hi30, hF⟩ := ck_ok hF
  refine rM_st Z hP hS 8 12 (by decide +kernel) hi30 dX10_comes_23 (fun H locs hP hS => ?_)
  refine lv_aload_n hx hb dX10_comes_24 rfl (lv_at hl 0 rfl) ?_
  refine gf10_18 Z hP wd_6_15 dX10_comes_25 ?_
  refine lv_iload_n hx hb dX10_comes_28 rfl (lv_at hl 2 rfl) ?_
  obtain ⟨M31, eM31, hF⟩ := lt_ok hF
  have hP : va_P g.2.2.1 vwCl (wL g mc M31) H := by rw [eM31]; exact hP
  obtain ⟨hi32, hF⟩ := ck_ok hF
  refine rM_ld Z hP 8 12 (by decide +kernel) hi32 dX10_comes_29 ?_
  refine lv_iconst (v := (2 : Int32)) hx hb dX10_comes_30 ic_2 ?_
  refine lv_irem hx hb dX10_comes_31 (by decide) ?_
  refine lv_if_ne (tgt := 70) hx hb dX10_comes_32 rfl (fun hc => ?_) (fun hc => ?_)
  · have hF := (if_neg hc).symm.trans hF
    exact hb70 _ hF _ _ _ (lv_sub hl [0, 2, 3] rfl) hP hS
  · have hF := (if_pos hc).symm.trans hF
    refine lv_aload_n hx hb dX10_comes_35 rfl (lv_at hl 0 rfl) ?_
    refine gf10_10 Z hP wd_6_11 dX10_comes_36 ?_
    refine lv_bipush (v := (8 : Int32)) hx hb dX10_comes_39 bp_8 ?_
    refine lv_iload_n hx hb dX10_comes_41 rfl (lv_at hl 2 rfl) ?_
    refine lv_imul hx hb dX10_comes_42 ?_
    refine lv_iconst (v := (2 : Int32)) hx hb dX10_comes_43 ic_2 ?_
    refine lv_iadd hx hb dX10_comes_44 ?_
    obtain ⟨hi33, hF⟩ := ck_ok hF
    refine rM_ld Z hP 64 8 (by decide +kernel) hi33 dX10_comes_45 ?_
    refine lv_iconst (v := (1 : Int32)) hx hb dX10_comes_46 ic_1 ?_
    refine lv_icmp_ne (tgt := 70) hx hb dX10_comes_47 rfl (fun hc => ?_) (fun hc => ?_)
    · have hF := (if_neg hc).symm.trans hF
      exact hb70 _ hF _ _ _ (lv_sub hl [0, 2, 3] rfl) hP hS
    · have hF := (if_pos hc).symm.trans hF
      refine lv_aload_n hx hb dX10_comes_50 rfl (lv_at hl 0 rfl) ?_
      refine gf10_19 Z hP wd_6_16 dX10_comes_51 ?_
      refine lv_iload_n hx hb dX10_comes_54 rfl (lv_at hl 2 rfl) ?_
      refine lv_dup2_11 hx hb dX10_comes_55 rfl rfl ?_
      obtain ⟨hi34, hF⟩ := ck_ok hF
      refine rM_ld Z hP 8 13 (by decide +kernel) hi34 dX10_comes_56 ?_
      refine lv_iconst (v := (1 : Int32)) hx hb dX10_comes_57 ic_1 ?_
      refine lv_iadd hx hb dX10_comes_58 ?_
      obtain ⟨hi35, hF⟩ := ck_ok hF
      refine rM_st Z hP hS 8 13 (by decide +kernel) hi35 dX10_comes_59 (fun H locs hP hS => ?_)
      refine lv_aload_n hx hb dX10_comes_60 rfl (lv_at hl 0 rfl) ?_
      refine gf10_20 Z hP wd_6_17 dX10_comes_61 ?_
      refine lv_iload_n hx hb dX10_comes_64 rfl (lv_at hl 2 rfl) ?_
      refine lv_dup2_11 hx hb dX10_comes_65 rfl rfl ?_
      obtain ⟨M36, eM36, hF⟩ := lt_ok hF
      have hP : va_P g.2.2.1 vwCl (wL g mc M36) H := by rw [eM36]; exact hP
      obtain ⟨hi37, hF⟩ := ck_ok hF
      refine rM_ld Z hP 8 14 (by decide +kernel) hi37 dX10_comes_66 ?_
      refine lv_iconst (v := (1 : Int32)) hx hb dX10_comes_67 ic_1 ?_
      refine lv_isub hx hb dX10_comes_68 ?_
      obtain ⟨hi38, hF⟩ := ck_ok hF
      refine rM_st Z hP hS 8 14 (by decide +kernel) hi38 dX10_comes_69 (fun H locs hP hS => ?_)
      exact hb70 _ hF _ _ _ (lv_sub hl [0, 2, 3] rfl) hP hS
theorem xX10_comes {p : Program} {l : Launch} {e : Env} {R : Room} {s : State} {m : MethodId} {args : Array Value} {below : List Frame} {meth : Method} {c : Code} {H : Heap} {locs : List Loc} {Q : State → Prop} {cc : ByteArray} {nL : Nat} {own : String} {g : GG} {pc index : Nat} {ls : Array Slot} {rest : List Value} {mc mm : Mem} (Z : ZZ p s m args c cc nL own g) (hP : va_P g.2.2.1 vwCl (wL g mc mm) H) (hS : va_S (AA g s.heap.size) s.heap H locs) {v1 : Int32} {v2 : Int32} {v3 : Int32} {q : Int32 × Mem} (hq : F10_comes v1 v2 v3 mm = some q) (hlk : Cond.methodLink own index yX10_comes ∈ wsL_law) (hsz : ls.size = nL) (hro : (rest.map fun v => v.category).sum ≤ 8) (hR : 1 + 1 ≤ R.frames ∧ 8 + (4 + 11) + 21 ≤ R.locals) (hdg : decode cc pc = .ok (.invokevirtual index, 3)) (kk : ∀ (H : Heap) (locs : List Loc), va_P g.2.2.1 vwCl (wL g mc q.2) H → va_S (AA g s.heap.size) s.heap H locs → W p l e R s m args below meth c H locs 0 0 Q (F0 m (pc + 3) ls (.int q.1 :: rest))) : W p l e R s m args below meth c H locs 0 0 Q (F0 m pc ls (.int v3 :: .int v2 :: .int v1 :: .ref (g.1 108) :: rest)) :=
  x_VI Z hP hS (kX10_comes l g v1 v2 v3 mc mm q hq) (mO) (ci := 10) (by decide) rfl rfl mf_X10_comes mv_X10_comes hlk rfl rfl hsz hro hR hdg kk
theorem dX10_next_0 : decode cX10_next 0 = .ok (.iload_n 2, 1) := by decide +kernel
theorem dX10_next_1 : decode cX10_next 1 = .ok (.ifCond .eq 11, 3) := by decide +kernel
theorem dX10_next_4 : decode cX10_next 4 = .ok (.aload_n 0, 1) := by decide +kernel
theorem dX10_next_5 : decode cX10_next 5 = .ok (.iload_n 1, 1) := by decide +kernel
theorem dX10_next_6 : decode cX10_next 6 = .ok (.invokevirtual 157, 3) := by decide +kernel
theorem dX10_next_9 : decode cX10_next 9 = .ok (.goto 8, 3) := by decide +kernel
theorem dX10_next_12 : decode cX10_next 12 = .ok (.aload_n 0, 1) := by decide +kernel
theorem dX10_next_13 : decode cX10_next 13 = .ok (.iload_n 1, 1) := by decide +kernel
theorem dX10_next_14 : decode cX10_next 14 = .ok (.invokevirtual 154, 3) := by decide +kernel
theorem dX10_next_17 : decode cX10_next 17 = .ok (.ireturn, 1) := by decide +kernel
noncomputable def F10_next (v1 : Int32) (v2 : Int32) (mm : Mem) : Option (Int32) :=
  (if v2 = (0 : Int32) then ((F10_down v1 mm).bind (fun q3 => (some q3))) else ((F10_up v1 mm).bind (fun q4 => (some q4))))
set_option maxHeartbeats 4000000 in
set_option maxRecDepth 100000 in
theorem kX10_next (l : Launch) (g : GG) (v1 : Int32) (v2 : Int32) (mc mm : Mem) (q : Int32) (hF : F10_next v1 v2 mm = some q) : KI l yX10_next cX10_next 3 .int 1 24 g [.ref (g.1 108), .int v1, .int v2] mc mm q (mc, mm) := by
  intro sz
  refine x_start (Qc := fun z => QI g z q (mc, mm)) (by decide +kernel) (Nat.le_of_ble_eq_true rfl) ?_ sz
  intro p e s m args below meth c ls Z hr hlk hP hl
  have hx := Z.1.1
  have hb := Z.1.2.1
  have hown := Z.1.2.2.2.1
  have hts := Z.1.2.2.2.2
  have hS : va_S (AA g s.heap.size) s.heap s.heap [] := va_S.rf
  have hl : lv_has ls 3 [(0, .ref (g.1 108)), (1, .int v1), (2, .int v2)] := hl
  unfold F10_next at hF
  refine lv_iload_n hx hb dX10_next_0 rfl (lv_at hl 2 rfl) ?_
  refine lv_if_eq (tgt := 12) hx hb dX10_next_1 rfl (fun hc => ?_) (fun hc => ?_)
  · have hF := (if_pos hc).symm.trans hF
    refine lv_aload_n hx hb dX10_next_12 rfl (lv_at hl 0 rfl) ?_
    refine lv_iload_n hx hb dX10_next_13 rfl (lv_at hl 1 rfl) ?_
    obtain ⟨q3, hq3, hF⟩ := bd_ok hF
    refine xX10_down Z hP hS hq3 wd_16_6 hl.1 (Nat.le_of_ble_eq_true rfl) ⟨Nat.le_of_ble_eq_true rfl, Nat.le_of_ble_eq_true rfl⟩ dX10_next_14 (fun H locs hP hS => ?_)
    exact ret_I Z hr hlk hP hS hF dX10_next_17
  · have hF := (if_neg hc).symm.trans hF
    refine lv_aload_n hx hb dX10_next_4 rfl (lv_at hl 0 rfl) ?_
    refine lv_iload_n hx hb dX10_next_5 rfl (lv_at hl 1 rfl) ?_
    obtain ⟨q4, hq4, hF⟩ := bd_ok hF
    refine xX10_up Z hP hS hq4 wd_16_10 hl.1 (Nat.le_of_ble_eq_true rfl) ⟨Nat.le_of_ble_eq_true rfl, Nat.le_of_ble_eq_true rfl⟩ dX10_next_6 (fun H locs hP hS => ?_)
    refine lv_goto (tgt := 17) hx hb dX10_next_9 rfl ?_
    exact ret_I Z hr hlk hP hS hF dX10_next_17
theorem xX10_next {p : Program} {l : Launch} {e : Env} {R : Room} {s : State} {m : MethodId} {args : Array Value} {below : List Frame} {meth : Method} {c : Code} {H : Heap} {locs : List Loc} {Q : State → Prop} {cc : ByteArray} {nL : Nat} {own : String} {g : GG} {pc index : Nat} {ls : Array Slot} {rest : List Value} {mc mm : Mem} (Z : ZZ p s m args c cc nL own g) (hP : va_P g.2.2.1 vwCl (wL g mc mm) H) (hS : va_S (AA g s.heap.size) s.heap H locs) {v1 : Int32} {v2 : Int32} {q : Int32} (hq : F10_next v1 v2 mm = some q) (hlk : Cond.methodLink own index yX10_next ∈ wsL_law) (hsz : ls.size = nL) (hro : (rest.map fun v => v.category).sum ≤ 8) (hR : 1 + 1 ≤ R.frames ∧ 8 + (3 + 11) + 24 ≤ R.locals) (hdg : decode cc pc = .ok (.invokevirtual index, 3)) (kk : ∀ (H : Heap) (locs : List Loc), va_P g.2.2.1 vwCl (wL g mc mm) H → va_S (AA g s.heap.size) s.heap H locs → W p l e R s m args below meth c H locs 0 0 Q (F0 m (pc + 3) ls (.int q :: rest))) : W p l e R s m args below meth c H locs 0 0 Q (F0 m pc ls (.int v2 :: .int v1 :: .ref (g.1 108) :: rest)) :=
  x_VI Z hP hS (kX10_next l g v1 v2 mc mm q hq) (mO) (ci := 10) (by decide) rfl rfl mf_X10_next mv_X10_next hlk rfl rfl hsz hro hR hdg kk
theorem dX10_goes_0 : decode cX10_goes 0 = .ok (.aload_n 0, 1) := by decide +kernel
theorem dX10_goes_1 : decode cX10_goes 1 = .ok (.iload_n 1, 1) := by decide +kernel
theorem dX10_goes_2 : decode cX10_goes 2 = .ok (.aload_n 0, 1) := by decide +kernel
theorem dX10_goes_3 : decode cX10_goes 3 = .ok (.getfield 37, 3) := by decide +kernel
theorem dX10_goes_6 : decode cX10_goes 6 = .ok (.iload_n 2, 1) := by decide +kernel
theorem dX10_goes_7 : decode cX10_goes 7 = .ok (.iaload, 1) := by decide +kernel
theorem dX10_goes_8 : decode cX10_goes 8 = .ok (.invokevirtual 201, 3) := by decide +kernel
theorem dX10_goes_11 : decode cX10_goes 11 = .ok (.istore_n 3, 1) := by decide +kernel
theorem dX10_goes_12 : decode cX10_goes 12 = .ok (.aload_n 0, 1) := by decide +kernel
theorem dX10_goes_13 : decode cX10_goes 13 = .ok (.aload_n 0, 1) := by decide +kernel
theorem dX10_goes_14 : decode cX10_goes 14 = .ok (.getfield 37, 3) := by decide +kernel
theorem dX10_goes_17 : decode cX10_goes 17 = .ok (.iload_n 2, 1) := by decide +kernel
theorem dX10_goes_18 : decode cX10_goes 18 = .ok (.iaload, 1) := by decide +kernel
theorem dX10_goes_19 : decode cX10_goes 19 = .ok (.iload_n 3, 1) := by decide +kernel
theorem dX10_goes_20 : decode cX10_goes 20 = .ok (.invokevirtual 204, 3) := by decide +kernel
theorem dX10_goes_23 : decode cX10_goes 23 = .ok (.istore 4, 2) := by decide +kernel
theorem dX10_goes_25 : decode cX10_goes 25 = .ok (.iload 4, 2) := by decide +kernel
theorem dX10_goes_27 : decode cX10_goes 27 = .ok (.iconst (-1), 1) := by decide +kernel
theorem dX10_goes_28 : decode cX10_goes 28 = .ok (.if_icmp .ne 12, 3) := by decide +kernel
theorem dX10_goes_31 : decode cX10_goes 31 = .ok (.aload_n 0, 1) := by decide +kernel
theorem dX10_goes_32 : decode cX10_goes 32 = .ok (.getfield 40, 3) := by decide +kernel
theorem dX10_goes_35 : decode cX10_goes 35 = .ok (.iload_n 2, 1) := by decide +kernel
theorem dX10_goes_36 : decode cX10_goes 36 = .ok (.iload_n 1, 1) := by decide +kernel
theorem dX10_goes_37 : decode cX10_goes 37 = .ok (.iastore, 1) := by decide +kernel
theorem dX10_goes_38 : decode cX10_goes 38 = .ok (.iconst 0, 1) := by decide +kernel
theorem dX10_goes_39 : decode cX10_goes 39 = .ok (.ireturn, 1) := by decide +kernel
theorem dX10_goes_40 : decode cX10_goes 40 = .ok (.iload 4, 2) := by decide +kernel
theorem dX10_goes_42 : decode cX10_goes 42 = .ok (.iconst (-1), 1) := by decide +kernel
theorem dX10_goes_43 : decode cX10_goes 43 = .ok (.if_icmp .eq 25, 3) := by decide +kernel
theorem dX10_goes_46 : decode cX10_goes 46 = .ok (.aload_n 0, 1) := by decide +kernel
theorem dX10_goes_47 : decode cX10_goes 47 = .ok (.iload_n 1, 1) := by decide +kernel
theorem dX10_goes_48 : decode cX10_goes 48 = .ok (.iload 4, 2) := by decide +kernel
theorem dX10_goes_50 : decode cX10_goes 50 = .ok (.invokevirtual 208, 3) := by decide +kernel
theorem dX10_goes_53 : decode cX10_goes 53 = .ok (.ifCond .eq 15, 3) := by decide +kernel
theorem dX10_goes_56 : decode cX10_goes 56 = .ok (.aload_n 0, 1) := by decide +kernel
theorem dX10_goes_57 : decode cX10_goes 57 = .ok (.iload 4, 2) := by decide +kernel
theorem dX10_goes_59 : decode cX10_goes 59 = .ok (.iload_n 3, 1) := by decide +kernel
theorem dX10_goes_60 : decode cX10_goes 60 = .ok (.invokevirtual 204, 3) := by decide +kernel
theorem dX10_goes_63 : decode cX10_goes 63 = .ok (.istore 4, 2) := by decide +kernel
theorem dX10_goes_65 : decode cX10_goes 65 = .ok (.goto (-25), 3) := by decide +kernel
theorem dX10_goes_68 : decode cX10_goes 68 = .ok (.iload 4, 2) := by decide +kernel
theorem dX10_goes_70 : decode cX10_goes 70 = .ok (.iconst (-1), 1) := by decide +kernel
theorem dX10_goes_71 : decode cX10_goes 71 = .ok (.if_icmp .ne 10, 3) := by decide +kernel
theorem dX10_goes_74 : decode cX10_goes 74 = .ok (.aload_n 0, 1) := by decide +kernel
theorem dX10_goes_75 : decode cX10_goes 75 = .ok (.iload_n 2, 1) := by decide +kernel
theorem dX10_goes_76 : decode cX10_goes 76 = .ok (.invokevirtual 197, 3) := by decide +kernel
theorem dX10_goes_79 : decode cX10_goes 79 = .ok (.iconst 0, 1) := by decide +kernel
theorem dX10_goes_80 : decode cX10_goes 80 = .ok (.ireturn, 1) := by decide +kernel
theorem dX10_goes_81 : decode cX10_goes 81 = .ok (.aload_n 0, 1) := by decide +kernel
theorem dX10_goes_82 : decode cX10_goes 82 = .ok (.iload_n 1, 1) := by decide +kernel
theorem dX10_goes_83 : decode cX10_goes 83 = .ok (.iload_n 2, 1) := by decide +kernel
theorem dX10_goes_84 : decode cX10_goes 84 = .ok (.iload 4, 2) := by decide +kernel
theorem dX10_goes_86 : decode cX10_goes 86 = .ok (.invokevirtual 211, 3) := by decide +kernel
theorem dX10_goes_89 : decode cX10_goes 89 = .ok (.ireturn, 1) := by decide +kernel
noncomputable def F10_goes_b68 (v1 : Int32) (v2 : Int32) (a4 : Int32) (M : Mem) : Option (Int32 × Mem) :=
  (if a4 = (-1 : Int32) then ((F10_loses v2 M).bind (fun q11 => (some ((0 : Int32), q11)))) else ((F10_comes v1 v2 a4 M).bind (fun q10 => (bz q10.1 (some (q10.1, q10.2))))))
noncomputable def F10_goes_p40 (kh : Int32 → Int32 → Mem → Option (Int32 × Mem)) (kx68 : Int32 → Mem → Option (Int32 × Mem)) (v1 : Int32) (v2 : Int32) (a3 : Int32) (a4 : Int32) (M : Mem) : Option (Int32 × Mem) :=
  (if a4 = (-1 : Int32) then kx68 a4 M else ((F10_isCovered v1 a4 M).bind (fun q12 => (if q12 = (0 : Int32) then kx68 a4 M else ((F10_next a4 a3 M).bind (fun q13 => (kh a3 q13 M)))))))
noncomputable def F10_goes_h40 (kx68 : Int32 → Mem → Option (Int32 × Mem)) (v1 : Int32) (v2 : Int32) : Nat → Int32 → Int32 → Mem → Option (Int32 × Mem)
  | 0, _, _, _ => none
  | n + 1, a3, a4, M => F10_goes_p40 (F10_goes_h40 kx68 v1 v2 n) kx68 v1 v2 a3 a4 M
noncomputable def F10_goes (v1 : Int32) (v2 : Int32) (mm : Mem) : Option (Int32 × Mem) :=
  (ck v2 8 ((F10_isCoin v1 (mm 10 v2.toNatClampNeg) mm).bind (fun q15 => (ck v2 8 ((F10_next (mm 10 v2.toNatClampNeg) q15 mm).bind (fun q17 => (if q17 = (-1 : Int32) then (ck v2 8 (some ((0 : Int32), (mset mm 11 v2.toNatClampNeg v1)))) else (F10_goes_h40 (F10_goes_b68 v1 v2) v1 v2 FU) q15 q17 mm)))))))
set_option maxHeartbeats 4000000 in
set_option maxRecDepth 100000 in
theorem kX10_goes (l : Launch) (g : GG) (v1 : Int32) (v2 : Int32) (mc mm : Mem) (q : Int32 × Mem) (hF : F10_goes v1 v2 mm = some q) : KI l yX10_goes cX10_goes 5 .boolean 2 49 g [.ref (g.1 108), .int v1, .int v2] mc mm q.1 (mc, q.2) := by
  intro sz
  refine x_start (Qc := fun z => QI g z q.1 (mc, q.2)) (by decide +kernel) (Nat.le_of_ble_eq_true rfl) ?_ sz
  intro p e s m args below meth c ls Z hr hlk hP hl
  have hx := Z.1.1
  have hb := Z.1.2.1
  have hown := Z.1.2.2.2.1
  have hts := Z.1.2.2.2.2
  have hS : va_S (AA g s.heap.size) s.heap s.heap [] := va_S.rf
  have hl : lv_has ls 5 [(0, .ref (g.1 108)), (1, .int v1), (2, .int v2)] := hl
  unfold F10_goes at hF
  have hb68 : ∀ (a4 : Int32) (M : Mem), F10_goes_b68 v1 v2 a4 M = some q → ∀ (H : Heap) (locs : List Loc) (ls : Array Slot), lv_has ls 5 [(0, .ref (g.1 108)), (1, .int v1), (2, .int v2), (4, .int a4)] → va_P g.2.2.1 vwCl (wL g mc M) H → va_S (AA g s.heap.size) s.heap H locs → W p l e { frames := 2, cells := 0, slots := 0, locals := 49 } s m args below meth c H locs 0 0 (MQ below (QI g s.heap.size q.1 (mc, q.2)) args s 0 0 (AA g s.heap.size)) (F0 m 68 ls []) := by
    intro a4 M hF H locs ls hl hP hS
    unfold F10_goes_b68 at hF
    refine lv_iload hx hb dX10_goes_68 (lv_at hl 3 rfl) ?_
    refine lv_iconst (v := (-1 : Int32)) hx hb dX10_goes_70 ic_m1 ?_
    refine lv_icmp_ne (tgt := 81) hx hb dX10_goes_71 rfl (fun hc => ?_) (fun hc => ?_)
    · have hF := (if_neg hc).symm.trans hF
      refine lv_aload_n hx hb dX10_goes_81 rfl (lv_at hl 0 rfl) ?_
      refine lv_iload_n hx hb dX10_goes_82 rfl (lv_at hl 1 rfl) ?_
      refine lv_iload_n hx hb dX10_goes_83 rfl (lv_at hl 2 rfl) ?_
      refine lv_iload hx hb dX10_goes_84 (lv_at hl 3 rfl) ?_
      obtain ⟨q10, hq10, hF⟩ := bd_ok hF
      refine xX10_comes Z hP hS hq10 wd_23_21 hl.1 (Nat.le_of_ble_eq_true rfl) ⟨Nat.le_of_ble_eq_true rfl, Nat.le_of_ble_eq_true rfl⟩ dX10_goes_86 (fun H locs hP hS => ?_)
      obtain ⟨hbz, hF⟩ := bz_ok hF
      exact ret_ZWM Z hr hlk hP hS hbz hF dX10_goes_89
    · have hF := (if_pos hc).symm.trans hF
      refine lv_aload_n hx hb dX10_goes_74 rfl (lv_at hl 0 rfl) ?_
      refine lv_iload_n hx hb dX10_goes_75 rfl (lv_at hl 2 rfl) ?_
      obtain ⟨q11, hq11, hF⟩ := bd_ok hF
      refine xX10_loses Z hP hS hq11 wd_23_5 hl.1 (Nat.le_of_ble_eq_true rfl) ⟨Nat.le_of_ble_eq_true rfl, Nat.le_of_ble_eq_true rfl⟩ dX10_goes_76 (fun H locs hP hS => ?_)
      refine lv_iconst (v := (0 : Int32)) hx hb dX10_goes_79 ic_0 ?_
      exact ret_ZWM Z hr hlk hP hS (Or.inl rfl) hF dX10_goes_80
  have hL40 : ∀ (kx68 : Int32 → Mem → Option (Int32 × Mem)), (∀ (a4 : Int32) (M : Mem), kx68 a4 M = some q → ∀ (H : Heap) (locs : List Loc) (ls : Array Slot), lv_has ls 5 [(0, .ref (g.1 108)), (1, .int v1), (2, .int v2), (4, .int a4)] → va_P g.2.2.1 vwCl (wL g mc M) H → va_S (AA g s.heap.size) s.heap H locs → W p l e { frames := 2, cells := 0, slots := 0, locals := 49 } s m args below meth c H locs 0 0 (MQ below (QI g s.heap.size q.1 (mc, q.2)) args s 0 0 (AA g s.heap.size)) (F0 m 68 ls [])) → ∀ n : Nat, ∀ (a3 : Int32) (a4 : Int32) (M : Mem), F10_goes_h40 kx68 v1 v2 n a3 a4 M = some q → ∀ (H : Heap) (locs : List Loc) (ls : Array Slot), lv_has ls 5 [(0, .ref (g.1 108)), (1, .int v1), (2, .int v2), (3, .int a3), (4, .int a4)] → va_P g.2.2.1 vwCl (wL g mc M) H → va_S (AA g s.heap.size) s.heap H locs → W p l e { frames := 2, cells := 0, slots := 0, locals := 49 } s m args below meth c H locs 0 0 (MQ below (QI g s.heap.size q.1 (mc, q.2)) args s 0 0 (AA g s.heap.size)) (F0 m 40 ls []) := by
    intro kx68 hx68 n
    induction n with
    | zero => intro a3 a4 M hF H locs ls hl hP hS; exact absurd hF (fun z => nomatch (show (none : Option _) = some q from z))
    | succ n ih =>
      generalize hkh : F10_goes_h40 kx68 v1 v2 n = kh at ih
      intro a3 a4 M hF H locs ls hl hP hS
      have hF : F10_goes_p40 (F10_goes_h40 kx68 v1 v2 n) kx68 v1 v2 a3 a4 M = some q := hF
      rw [hkh] at hF
      unfold F10_goes_p40 at hF
      refine lv_iload hx hb dX10_goes_40 (lv_at hl 4 rfl) ?_
      refine lv_iconst (v := (-1 : Int32)) hx hb dX10_goes_42 ic_m1 ?_
      refine lv_icmp_eq (tgt := 68) hx hb dX10_goes_43 rfl (fun hc => ?_) (fun hc => ?_)
      · have hF := (if_pos hc).symm.trans hF
        exact hx68 _ _ hF _ _ _ (lv_sub hl [0, 1, 2, 4] rfl) hP hS
      · have hF := (if_neg hc).symm.trans hF
        refine lv_aload_n hx hb dX10_goes_46 rfl (lv_at hl 0 rfl) ?_
        refine lv_iload_n hx hb dX10_goes_47 rfl (lv_at hl 1 rfl) ?_
        refine lv_iload hx hb dX10_goes_48 (lv_at hl 4 rfl) ?_
        obtain ⟨q12, hq12, hF⟩ := bd_ok hF
        refine xX10_isCovered Z hP hS hq12 wd_22_21 hl.1 (Nat.le_of_ble_eq_true rfl) ⟨Nat.le_of_ble_eq_true rfl, Nat.le_of_ble_eq_true rfl⟩ dX10_goes_50 (fun H locs hP hS => ?_)
        refine lv_if_eq (tgt := 68) hx hb dX10_goes_53 rfl (fun hc => ?_) (fun hc => ?_)
        · have hF := (if_pos hc).symm.trans hF
          exact hx68 _ _ hF _ _ _ (lv_sub hl [0, 1, 2, 4] rfl) hP hS
        · have hF := (if_neg hc).symm.trans hF
          refine lv_aload_n hx hb dX10_goes_56 rfl (lv_at hl 0 rfl) ?_
          refine lv_iload hx hb dX10_goes_57 (lv_at hl 4 rfl) ?_
          refine lv_iload_n hx hb dX10_goes_59 rfl (lv_at hl 3 rfl) ?_
          obtain ⟨q13, hq13, hF⟩ := bd_ok hF
          refine xX10_next Z hP hS hq13 wd_24_10 hl.1 (Nat.le_of_ble_eq_true rfl) ⟨Nat.le_of_ble_eq_true rfl, Nat.le_of_ble_eq_true rfl⟩ dX10_goes_60 (fun H locs hP hS => ?_)
          refine lv_istore (lv' := [(4, .int q13), (0, .ref (g.1 108)), (1, .int v1), (2, .int v2), (3, .int a3)]) hx hb dX10_goes_63 hl (Nat.le_of_ble_eq_true rfl) rfl (fun ls hl => ?_)
          refine lv_goto (tgt := 40) hx hb dX10_goes_65 rfl ?_
          exact ih _ _ _ hF _ _ _ (lv_sub hl [1, 2, 3, 4, 0] rfl) hP hS
  refine lv_aload_n hx hb dX10_goes_0 rfl (lv_at hl 0 rfl) ?_
  refine lv_iload_n hx hb dX10_goes_1 rfl (lv_at hl 1 rfl) ?_
  refine lv_aload_n hx hb dX10_goes_2 rfl (lv_at hl 0 rfl) ?_
  refine gf10_16 Z hP wd_6_13 dX10_goes_3 ?_
  refine lv_iload_n hx hb dX10_goes_6 rfl (lv_at hl 2 rfl) ?_
  obtain ⟨hi14, hF⟩ := ck_ok hF
  refine rM_ld Z hP 8 10 (by decide +kernel) hi14 dX10_goes_7 ?_
  obtain ⟨q15, hq15, hF⟩ := bd_ok hF
  refine xX10_isCoin Z hP hS hq15 wd_24_5 hl.1 (Nat.le_of_ble_eq_true rfl) ⟨Nat.le_of_ble_eq_true rfl, Nat.le_of_ble_eq_true rfl⟩ dX10_goes_8 (fun H locs hP hS => ?_)
  refine lv_istore_n (lv' := [(3, .int q15), (0, .ref (g.1 108)), (1, .int v1), (2, .int v2)]) hx hb dX10_goes_11 rfl hl (Nat.le_of_ble_eq_true rfl) rfl (fun ls hl => ?_)
  refine lv_aload_n hx hb dX10_goes_12 rfl (lv_at hl 1 rfl) ?_
  refine lv_aload_n hx hb dX10_goes_13 rfl (lv_at hl 1 rfl) ?_
  refine gf10_16 Z hP wd_6_13 dX10_goes_14 ?_
  refine lv_iload_n hx hb dX10_goes_17 rfl (lv_at hl 3 rfl) ?_
  obtain ⟨hi16, hF⟩ := ck_ok hF
  refine rM_ld Z hP 8 10 (by decide +kernel) hi16 dX10_goes_18 ?_
  refine lv_iload_n hx hb dX10_goes_19 rfl (lv_at hl 0 rfl) ?_
  obtain ⟨q17, hq17, hF⟩ := bd_ok hF
  refine xX10_next Z hP hS hq17 wd_24_10 hl.1 (Nat.le_of_ble_eq_true rfl) ⟨Nat.le_of_ble_eq_true rfl, Nat.le_of_ble_eq_true rfl⟩ dX10_goes_20 (fun H locs hP hS => ?_)
  refine lv_istore (lv' := [(4, .int q17), (3, .int q15), (0, .ref (g.1 108)), (1, .int v1), (2, .int v2)]) hx hb dX10_goes_23 hl (Nat.le_of_ble_eq_true rfl) rfl (fun ls hl => ?_)
  refine lv_iload hx hb dX10_goes_25 (lv_at hl 0 rfl) ?_
  refine lv_iconst (v := (-1 : Int32)) hx hb dX10_goes_27 ic_m1 ?_
  refine lv_icmp_ne (tgt := 40) hx hb dX10_goes_28 rfl (fun hc => ?_) (fun hc => ?_)
  · have hF := (if_neg hc).symm.trans hF
    exact (hL40 _ hb68 FU) _ _ _ hF _ _ _ (lv_sub hl [2, 3, 4, 1, 0] rfl) hP hS
  · have hF := (if_pos hc).symm.trans hF
    refine lv_aload_n hx hb dX10_goes_31 rfl (lv_at hl 2 rfl) ?_
    refine gf10_17 Z hP wd_6_14 dX10_goes_32 ?_
    refine lv_iload_n hx hb dX10_goes_35 rfl (lv_at hl 4 rfl) ?_
    refine lv_iload_n hx hb dX10_goes_36 rfl (lv_at hl 3 rfl) ?_
    obtain ⟨hi18, hF⟩ := ck_ok hF
    refine rM_st Z hP hS 8 11 (by decide +kernel) hi18 dX10_goes_37 (fun H locs hP hS => ?_)
    refine lv_iconst (v := (0 : Int32)) hx hb dX10_goes_38 ic_0 ?_
    exact ret_ZWM Z hr hlk hP hS (Or.inl rfl) hF dX10_goes_39
theorem xX10_goes {p : Program} {l : Launch} {e : Env} {R : Room} {s : State} {m : MethodId} {args : Array Value} {below : List Frame} {meth : Method} {c : Code} {H : Heap} {locs : List Loc} {Q : State → Prop} {cc : ByteArray} {nL : Nat} {own : String} {g : GG} {pc index : Nat} {ls : Array Slot} {rest : List Value} {mc mm : Mem} (Z : ZZ p s m args c cc nL own g) (hP : va_P g.2.2.1 vwCl (wL g mc mm) H) (hS : va_S (AA g s.heap.size) s.heap H locs) {v1 : Int32} {v2 : Int32} {q : Int32 × Mem} (hq : F10_goes v1 v2 mm = some q) (hlk : Cond.methodLink own index yX10_goes ∈ wsL_law) (hsz : ls.size = nL) (hro : (rest.map fun v => v.category).sum ≤ 8) (hR : 2 + 1 ≤ R.frames ∧ 8 + (5 + 11) + 49 ≤ R.locals) (hdg : decode cc pc = .ok (.invokevirtual index, 3)) (kk : ∀ (H : Heap) (locs : List Loc), va_P g.2.2.1 vwCl (wL g mc q.2) H → va_S (AA g s.heap.size) s.heap H locs → W p l e R s m args below meth c H locs 0 0 Q (F0 m (pc + 3) ls (.int q.1 :: rest))) : W p l e R s m args below meth c H locs 0 0 Q (F0 m pc ls (.int v2 :: .int v1 :: .ref (g.1 108) :: rest)) :=
  x_VI Z hP hS (kX10_goes l g v1 v2 mc mm q hq) (mO) (ci := 10) (by decide) rfl rfl mf_X10_goes mv_X10_goes hlk rfl rfl hsz hro hR hdg kk
theorem dX10_driesUp_0 : decode cX10_driesUp 0 = .ok (.aload_n 0, 1) := by decide +kernel
theorem dX10_driesUp_1 : decode cX10_driesUp 1 = .ok (.iload_n 1, 1) := by decide +kernel
theorem dX10_driesUp_2 : decode cX10_driesUp 2 = .ok (.iload_n 3, 1) := by decide +kernel
theorem dX10_driesUp_3 : decode cX10_driesUp 3 = .ok (.invokevirtual 208, 3) := by decide +kernel
theorem dX10_driesUp_6 : decode cX10_driesUp 6 = .ok (.ifCond .eq 10, 3) := by decide +kernel
theorem dX10_driesUp_9 : decode cX10_driesUp 9 = .ok (.aload_n 0, 1) := by decide +kernel
theorem dX10_driesUp_10 : decode cX10_driesUp 10 = .ok (.iload_n 2, 1) := by decide +kernel
theorem dX10_driesUp_11 : decode cX10_driesUp 11 = .ok (.invokevirtual 197, 3) := by decide +kernel
theorem dX10_driesUp_14 : decode cX10_driesUp 14 = .ok (.iconst 0, 1) := by decide +kernel
theorem dX10_driesUp_15 : decode cX10_driesUp 15 = .ok (.ireturn, 1) := by decide +kernel
theorem dX10_driesUp_16 : decode cX10_driesUp 16 = .ok (.aload_n 0, 1) := by decide +kernel
theorem dX10_driesUp_17 : decode cX10_driesUp 17 = .ok (.iload_n 1, 1) := by decide +kernel
theorem dX10_driesUp_18 : decode cX10_driesUp 18 = .ok (.iload_n 2, 1) := by decide +kernel
theorem dX10_driesUp_19 : decode cX10_driesUp 19 = .ok (.iload_n 3, 1) := by decide +kernel
theorem dX10_driesUp_20 : decode cX10_driesUp 20 = .ok (.invokevirtual 211, 3) := by decide +kernel
theorem dX10_driesUp_23 : decode cX10_driesUp 23 = .ok (.ireturn, 1) := by decide +kernel
noncomputable def F10_driesUp (v1 : Int32) (v2 : Int32) (v3 : Int32) (mm : Mem) : Option (Int32 × Mem) :=
  ((F10_isCovered v1 v3 mm).bind (fun q4 => (if q4 = (0 : Int32) then ((F10_comes v1 v2 v3 mm).bind (fun q5 => (bz q5.1 (some (q5.1, q5.2))))) else ((F10_loses v2 mm).bind (fun q6 => (some ((0 : Int32), q6)))))))
set_option maxHeartbeats 4000000 in
set_option maxRecDepth 100000 in
theorem kX10_driesUp (l : Launch) (g : GG) (v1 : Int32) (v2 : Int32) (v3 : Int32) (mc mm : Mem) (q : Int32 × Mem) (hF : F10_driesUp v1 v2 v3 mm = some q) : KI l yX10_driesUp cX10_driesUp 4 .boolean 2 49 g [.ref (g.1 108), .int v1, .int v2, .int v3] mc mm q.1 (mc, q.2) := by
  intro sz
  refine x_start (Qc := fun z => QI g z q.1 (mc, q.2)) (by decide +kernel) (Nat.le_of_ble_eq_true rfl) ?_ sz
  intro p e s m args below meth c ls Z hr hlk hP hl
  have hx := Z.1.1
  have hb := Z.1.2.1
  have hown := Z.1.2.2.2.1
  have hts := Z.1.2.2.2.2
  have hS : va_S (AA g s.heap.size) s.heap s.heap [] := va_S.rf
  have hl : lv_has ls 4 [(0, .ref (g.1 108)), (1, .int v1), (2, .int v2), (3, .int v3)] := hl
  unfold F10_driesUp at hF
  refine lv_aload_n hx hb dX10_driesUp_0 rfl (lv_at hl 0 rfl) ?_
  refine lv_iload_n hx hb dX10_driesUp_1 rfl (lv_at hl 1 rfl) ?_
  refine lv_iload_n hx hb dX10_driesUp_2 rfl (lv_at hl 3 rfl) ?_
  obtain ⟨q4, hq4, hF⟩ := bd_ok hF
  refine xX10_isCovered Z hP hS hq4 wd_22_21 hl.1 (Nat.le_of_ble_eq_true rfl) ⟨Nat.le_of_ble_eq_true rfl, Nat.le_of_ble_eq_true rfl⟩ dX10_driesUp_3 (fun H locs hP hS => ?_)
  refine lv_if_eq (tgt := 16) hx hb dX10_driesUp_6 rfl (fun hc => ?_) (fun hc => ?_)
  · have hF := (if_pos hc).symm.trans hF
    refine lv_aload_n hx hb dX10_driesUp_16 rfl (lv_at hl 0 rfl) ?_
    refine lv_iload_n hx hb dX10_driesUp_17 rfl (lv_at hl 1 rfl) ?_
    refine lv_iload_n hx hb dX10_driesUp_18 rfl (lv_at hl 2 rfl) ?_
    refine lv_iload_n hx hb dX10_driesUp_19 rfl (lv_at hl 3 rfl) ?_
    obtain ⟨q5, hq5, hF⟩ := bd_ok hF
    refine xX10_comes Z hP hS hq5 wd_23_21 hl.1 (Nat.le_of_ble_eq_true rfl) ⟨Nat.le_of_ble_eq_true rfl, Nat.le_of_ble_eq_true rfl⟩ dX10_driesUp_20 (fun H locs hP hS => ?_)
    obtain ⟨hbz, hF⟩ := bz_ok hF
    exact ret_ZWM Z hr hlk hP hS hbz hF dX10_driesUp_23
  · have hF := (if_neg hc).symm.trans hF
    refine lv_aload_n hx hb dX10_driesUp_9 rfl (lv_at hl 0 rfl) ?_
    refine lv_iload_n hx hb dX10_driesUp_10 rfl (lv_at hl 2 rfl) ?_
    obtain ⟨q6, hq6, hF⟩ := bd_ok hF
    refine xX10_loses Z hP hS hq6 wd_23_5 hl.1 (Nat.le_of_ble_eq_true rfl) ⟨Nat.le_of_ble_eq_true rfl, Nat.le_of_ble_eq_true rfl⟩ dX10_driesUp_11 (fun H locs hP hS => ?_)
    refine lv_iconst (v := (0 : Int32)) hx hb dX10_driesUp_14 ic_0 ?_
    exact ret_ZWM Z hr hlk hP hS (Or.inl rfl) hF dX10_driesUp_15
theorem xX10_driesUp {p : Program} {l : Launch} {e : Env} {R : Room} {s : State} {m : MethodId} {args : Array Value} {below : List Frame} {meth : Method} {c : Code} {H : Heap} {locs : List Loc} {Q : State → Prop} {cc : ByteArray} {nL : Nat} {own : String} {g : GG} {pc index : Nat} {ls : Array Slot} {rest : List Value} {mc mm : Mem} (Z : ZZ p s m args c cc nL own g) (hP : va_P g.2.2.1 vwCl (wL g mc mm) H) (hS : va_S (AA g s.heap.size) s.heap H locs) {v1 : Int32} {v2 : Int32} {v3 : Int32} {q : Int32 × Mem} (hq : F10_driesUp v1 v2 v3 mm = some q) (hlk : Cond.methodLink own index yX10_driesUp ∈ wsL_law) (hsz : ls.size = nL) (hro : (rest.map fun v => v.category).sum ≤ 8) (hR : 2 + 1 ≤ R.frames ∧ 8 + (4 + 11) + 49 ≤ R.locals) (hdg : decode cc pc = .ok (.invokevirtual index, 3)) (kk : ∀ (H : Heap) (locs : List Loc), va_P g.2.2.1 vwCl (wL g mc q.2) H → va_S (AA g s.heap.size) s.heap H locs → W p l e R s m args below meth c H locs 0 0 Q (F0 m (pc + 3) ls (.int q.1 :: rest))) : W p l e R s m args below meth c H locs 0 0 Q (F0 m pc ls (.int v3 :: .int v2 :: .int v1 :: .ref (g.1 108) :: rest)) :=
  x_VI Z hP hS (kX10_driesUp l g v1 v2 v3 mc mm q hq) (mO) (ci := 10) (by decide) rfl rfl mf_X10_driesUp mv_X10_driesUp hlk rfl rfl hsz hro hR hdg kk
theorem dX10_passes_0 : decode cX10_passes 0 = .ok (.aload_n 0, 1) := by decide +kernel
theorem dX10_passes_1 : decode cX10_passes 1 = .ok (.getfield 31, 3) := by decide +kernel
theorem dX10_passes_4 : decode cX10_passes 4 = .ok (.bipush 8, 2) := by decide +kernel
theorem dX10_passes_6 : decode cX10_passes 6 = .ok (.iload_n 2, 1) := by decide +kernel
theorem dX10_passes_7 : decode cX10_passes 7 = .ok (.imul, 1) := by decide +kernel
theorem dX10_passes_8 : decode cX10_passes 8 = .ok (.iaload, 1) := by decide +kernel
theorem dX10_passes_9 : decode cX10_passes 9 = .ok (.iload_n 1, 1) := by decide +kernel
theorem dX10_passes_10 : decode cX10_passes 10 = .ok (.if_icmp .ne 56, 3) := by decide +kernel
theorem dX10_passes_13 : decode cX10_passes 13 = .ok (.aload_n 0, 1) := by decide +kernel
theorem dX10_passes_14 : decode cX10_passes 14 = .ok (.getfield 31, 3) := by decide +kernel
theorem dX10_passes_17 : decode cX10_passes 17 = .ok (.bipush 8, 2) := by decide +kernel
theorem dX10_passes_19 : decode cX10_passes 19 = .ok (.iload_n 2, 1) := by decide +kernel
theorem dX10_passes_20 : decode cX10_passes 20 = .ok (.imul, 1) := by decide +kernel
theorem dX10_passes_21 : decode cX10_passes 21 = .ok (.iconst 1, 1) := by decide +kernel
theorem dX10_passes_22 : decode cX10_passes 22 = .ok (.iadd, 1) := by decide +kernel
theorem dX10_passes_23 : decode cX10_passes 23 = .ok (.iaload, 1) := by decide +kernel
theorem dX10_passes_24 : decode cX10_passes 24 = .ok (.istore_n 3, 1) := by decide +kernel
theorem dX10_passes_25 : decode cX10_passes 25 = .ok (.aload_n 0, 1) := by decide +kernel
theorem dX10_passes_26 : decode cX10_passes 26 = .ok (.iload_n 3, 1) := by decide +kernel
theorem dX10_passes_27 : decode cX10_passes 27 = .ok (.invokevirtual 160, 3) := by decide +kernel
theorem dX10_passes_30 : decode cX10_passes 30 = .ok (.ifCond .eq 12, 3) := by decide +kernel
theorem dX10_passes_33 : decode cX10_passes 33 = .ok (.aload_n 0, 1) := by decide +kernel
theorem dX10_passes_34 : decode cX10_passes 34 = .ok (.iload_n 1, 1) := by decide +kernel
theorem dX10_passes_35 : decode cX10_passes 35 = .ok (.iload_n 3, 1) := by decide +kernel
theorem dX10_passes_36 : decode cX10_passes 36 = .ok (.invokevirtual 208, 3) := by decide +kernel
theorem dX10_passes_39 : decode cX10_passes 39 = .ok (.ifCond .eq 11, 3) := by decide +kernel
theorem dX10_passes_42 : decode cX10_passes 42 = .ok (.aload_n 0, 1) := by decide +kernel
theorem dX10_passes_43 : decode cX10_passes 43 = .ok (.iload_n 2, 1) := by decide +kernel
theorem dX10_passes_44 : decode cX10_passes 44 = .ok (.invokevirtual 197, 3) := by decide +kernel
theorem dX10_passes_47 : decode cX10_passes 47 = .ok (.goto 17, 3) := by decide +kernel
theorem dX10_passes_50 : decode cX10_passes 50 = .ok (.aload_n 0, 1) := by decide +kernel
theorem dX10_passes_51 : decode cX10_passes 51 = .ok (.getfield 37, 3) := by decide +kernel
theorem dX10_passes_54 : decode cX10_passes 54 = .ok (.iload_n 2, 1) := by decide +kernel
theorem dX10_passes_55 : decode cX10_passes 55 = .ok (.iload_n 3, 1) := by decide +kernel
theorem dX10_passes_56 : decode cX10_passes 56 = .ok (.iastore, 1) := by decide +kernel
theorem dX10_passes_57 : decode cX10_passes 57 = .ok (.aload_n 0, 1) := by decide +kernel
theorem dX10_passes_58 : decode cX10_passes 58 = .ok (.getfield 40, 3) := by decide +kernel
theorem dX10_passes_61 : decode cX10_passes 61 = .ok (.iload_n 2, 1) := by decide +kernel
theorem dX10_passes_62 : decode cX10_passes 62 = .ok (.iload_n 1, 1) := by decide +kernel
theorem dX10_passes_63 : decode cX10_passes 63 = .ok (.iastore, 1) := by decide +kernel
theorem dX10_passes_64 : decode cX10_passes 64 = .ok (.iconst 0, 1) := by decide +kernel
theorem dX10_passes_65 : decode cX10_passes 65 = .ok (.ireturn, 1) := by decide +kernel
theorem dX10_passes_66 : decode cX10_passes 66 = .ok (.aload_n 0, 1) := by decide +kernel
theorem dX10_passes_67 : decode cX10_passes 67 = .ok (.getfield 37, 3) := by decide +kernel
theorem dX10_passes_70 : decode cX10_passes 70 = .ok (.iload_n 2, 1) := by decide +kernel
theorem dX10_passes_71 : decode cX10_passes 71 = .ok (.iaload, 1) := by decide +kernel
theorem dX10_passes_72 : decode cX10_passes 72 = .ok (.iconst (-1), 1) := by decide +kernel
theorem dX10_passes_73 : decode cX10_passes 73 = .ok (.if_icmp .ne 5, 3) := by decide +kernel
theorem dX10_passes_76 : decode cX10_passes 76 = .ok (.iconst 0, 1) := by decide +kernel
theorem dX10_passes_77 : decode cX10_passes 77 = .ok (.ireturn, 1) := by decide +kernel
theorem dX10_passes_78 : decode cX10_passes 78 = .ok (.aload_n 0, 1) := by decide +kernel
theorem dX10_passes_79 : decode cX10_passes 79 = .ok (.invokevirtual 215, 3) := by decide +kernel
theorem dX10_passes_82 : decode cX10_passes 82 = .ok (.istore_n 3, 1) := by decide +kernel
theorem dX10_passes_83 : decode cX10_passes 83 = .ok (.aload_n 0, 1) := by decide +kernel
theorem dX10_passes_84 : decode cX10_passes 84 = .ok (.iload_n 1, 1) := by decide +kernel
theorem dX10_passes_85 : decode cX10_passes 85 = .ok (.invokevirtual 218, 3) := by decide +kernel
theorem dX10_passes_88 : decode cX10_passes 88 = .ok (.ifCond .eq 21, 3) := by decide +kernel
theorem dX10_passes_91 : decode cX10_passes 91 = .ok (.aload_n 0, 1) := by decide +kernel
theorem dX10_passes_92 : decode cX10_passes 92 = .ok (.getfield 37, 3) := by decide +kernel
theorem dX10_passes_95 : decode cX10_passes 95 = .ok (.iload_n 2, 1) := by decide +kernel
theorem dX10_passes_96 : decode cX10_passes 96 = .ok (.iaload, 1) := by decide +kernel
theorem dX10_passes_97 : decode cX10_passes 97 = .ok (.iload_n 3, 1) := by decide +kernel
theorem dX10_passes_98 : decode cX10_passes 98 = .ok (.if_icmp .eq 11, 3) := by decide +kernel
theorem dX10_passes_101 : decode cX10_passes 101 = .ok (.aload_n 0, 1) := by decide +kernel
theorem dX10_passes_102 : decode cX10_passes 102 = .ok (.iload_n 1, 1) := by decide +kernel
theorem dX10_passes_103 : decode cX10_passes 103 = .ok (.iload_n 2, 1) := by decide +kernel
theorem dX10_passes_104 : decode cX10_passes 104 = .ok (.iload_n 3, 1) := by decide +kernel
theorem dX10_passes_105 : decode cX10_passes 105 = .ok (.invokevirtual 221, 3) := by decide +kernel
theorem dX10_passes_108 : decode cX10_passes 108 = .ok (.ireturn, 1) := by decide +kernel
theorem dX10_passes_109 : decode cX10_passes 109 = .ok (.iload_n 1, 1) := by decide +kernel
theorem dX10_passes_110 : decode cX10_passes 110 = .ok (.aload_n 0, 1) := by decide +kernel
theorem dX10_passes_111 : decode cX10_passes 111 = .ok (.getfield 40, 3) := by decide +kernel
theorem dX10_passes_114 : decode cX10_passes 114 = .ok (.iload_n 2, 1) := by decide +kernel
theorem dX10_passes_115 : decode cX10_passes 115 = .ok (.iaload, 1) := by decide +kernel
theorem dX10_passes_116 : decode cX10_passes 116 = .ok (.isub, 1) := by decide +kernel
theorem dX10_passes_117 : decode cX10_passes 117 = .ok (.aload_n 0, 1) := by decide +kernel
theorem dX10_passes_118 : decode cX10_passes 118 = .ok (.getfield 28, 3) := by decide +kernel
theorem dX10_passes_121 : decode cX10_passes 121 = .ok (.iconst 2, 1) := by decide +kernel
theorem dX10_passes_122 : decode cX10_passes 122 = .ok (.aload_n 0, 1) := by decide +kernel
theorem dX10_passes_123 : decode cX10_passes 123 = .ok (.getfield 37, 3) := by decide +kernel
theorem dX10_passes_126 : decode cX10_passes 126 = .ok (.iload_n 2, 1) := by decide +kernel
theorem dX10_passes_127 : decode cX10_passes 127 = .ok (.iaload, 1) := by decide +kernel
theorem dX10_passes_128 : decode cX10_passes 128 = .ok (.imul, 1) := by decide +kernel
theorem dX10_passes_129 : decode cX10_passes 129 = .ok (.iaload, 1) := by decide +kernel
theorem dX10_passes_130 : decode cX10_passes 130 = .ok (.iconst 2, 1) := by decide +kernel
theorem dX10_passes_131 : decode cX10_passes 131 = .ok (.if_icmp .ne 7, 3) := by decide +kernel
theorem dX10_passes_134 : decode cX10_passes 134 = .ok (.iconst 2, 1) := by decide +kernel
theorem dX10_passes_135 : decode cX10_passes 135 = .ok (.goto 4, 3) := by decide +kernel
theorem dX10_passes_138 : decode cX10_passes 138 = .ok (.iconst 1, 1) := by decide +kernel
theorem dX10_passes_139 : decode cX10_passes 139 = .ok (.if_icmp .ne 16, 3) := by decide +kernel
theorem dX10_passes_142 : decode cX10_passes 142 = .ok (.aload_n 0, 1) := by decide +kernel
theorem dX10_passes_143 : decode cX10_passes 143 = .ok (.iload_n 1, 1) := by decide +kernel
theorem dX10_passes_144 : decode cX10_passes 144 = .ok (.iload_n 2, 1) := by decide +kernel
theorem dX10_passes_145 : decode cX10_passes 145 = .ok (.invokevirtual 224, 3) := by decide +kernel
theorem dX10_passes_148 : decode cX10_passes 148 = .ok (.ifCond .eq 7, 3) := by decide +kernel
theorem dX10_passes_151 : decode cX10_passes 151 = .ok (.iconst 1, 1) := by decide +kernel
theorem dX10_passes_152 : decode cX10_passes 152 = .ok (.goto 4, 3) := by decide +kernel
theorem dX10_passes_155 : decode cX10_passes 155 = .ok (.iconst 0, 1) := by decide +kernel
theorem dX10_passes_156 : decode cX10_passes 156 = .ok (.ireturn, 1) := by decide +kernel
noncomputable def F10_passes_b155 (v1 : Int32) (v2 : Int32) (M : Mem) : Option (Int32 × Mem) :=
  some ((0 : Int32), M)
noncomputable def F10_passes_b139 (v1 : Int32) (v2 : Int32) (s0 : Int32) (s1 : Int32) (M : Mem) : Option (Int32 × Mem) :=
  (if s0 = s1 then ((F10_goes v1 v2 M).bind (fun q17 => (if q17.1 = (0 : Int32) then (F10_passes_b155 v1 v2) q17.2 else some ((1 : Int32), q17.2)))) else (F10_passes_b155 v1 v2) M)
noncomputable def F10_passes_b109 (v1 : Int32) (v2 : Int32) (M : Mem) : Option (Int32 × Mem) :=
  (ck v2 8 (ck v2 8 (ck ((2 : Int32) * (M 10 v2.toNatClampNeg)) 16 (if (M 7 ((2 : Int32) * (M 10 v2.toNatClampNeg)).toNatClampNeg) = (2 : Int32) then (F10_passes_b139 v1 v2) (v1 - (M 11 v2.toNatClampNeg)) (2 : Int32) M else (F10_passes_b139 v1 v2) (v1 - (M 11 v2.toNatClampNeg)) (1 : Int32) M))))
noncomputable def F10_passes_b42 (v1 : Int32) (v2 : Int32) (M : Mem) : Option (Int32 × Mem) :=
  ((F10_loses v2 M).bind (fun q21 => (some ((0 : Int32), q21))))
noncomputable def F10_passes (v1 : Int32) (v2 : Int32) (mm : Mem) : Option (Int32 × Mem) :=
  (ck ((8 : Int32) * v2) 64 (if (mm 8 ((8 : Int32) * v2).toNatClampNeg) = v1 then (ck (((8 : Int32) * v2) + (1 : Int32)) 64 ((F10_isWell (mm 8 (((8 : Int32) * v2) + (1 : Int32)).toNatClampNeg) mm).bind (fun q29 => (if q29 = (0 : Int32) then (F10_passes_b42 v1 v2) mm else ((F10_isCovered v1 (mm 8 (((8 : Int32) * v2) + (1 : Int32)).toNatClampNeg) mm).bind (fun q30 => (if q30 = (0 : Int32) then (ck v2 8 (ck v2 8 (some ((0 : Int32), (mset (mset mm 10 v2.toNatClampNeg (mm 8 (((8 : Int32) * v2) + (1 : Int32)).toNatClampNeg)) 11 v2.toNatClampNeg v1))))) else (F10_passes_b42 v1 v2) mm))))))) else (ck v2 8 (if (mm 10 v2.toNatClampNeg) = (-1 : Int32) then some ((0 : Int32), mm) else ((F10_lastWell mm).bind (fun q24 => ((F10_isDrought v1 mm).bind (fun q25 => (if q25 = (0 : Int32) then (F10_passes_b109 v1 v2) mm else (ck v2 8 (if (mm 10 v2.toNatClampNeg) = q24 then (F10_passes_b109 v1 v2) mm else ((F10_driesUp v1 v2 q24 mm).bind (fun q27 => (bz q27.1 (some (q27.1, q27.2))))))))))))))))
set_option maxHeartbeats 4000000 in
set_option maxRecDepth 100000 in
theorem kX10_passes (l : Launch) (g : GG) (v1 : Int32) (v2 : Int32) (mc mm : Mem) (q : Int32 × Mem) (hF : F10_passes v1 v2 mm = some q) : KI l yX10_passes cX10_passes 4 .boolean 3 73 g [.ref (g.1 108), .int v1, .int v2] mc mm q.1 (mc, q.2) := by
  intro sz
  refine x_start (Qc := fun z => QI g z q.1 (mc, q.2)) (by decide +kernel) (Nat.le_of_ble_eq_true rfl) ?_ sz
  intro p e s m args below meth c ls Z hr hlk hP hl
  have hx := Z.1.1
  have hb := Z.1.2.1
  have hown := Z.1.2.2.2.1
  have hts := Z.1.2.2.2.2
  have hS : va_S (AA g s.heap.size) s.heap s.heap [] := va_S.rf
  have hl : lv_has ls 4 [(0, .ref (g.1 108)), (1, .int v1), (2, .int v2)] := hl
  unfold F10_passes at hF
  have hb155 : ∀  (M : Mem), F10_passes_b155 v1 v2 M = some q → ∀ (H : Heap) (locs : List Loc) (ls : Array Slot), lv_has ls 4 [] → va_P g.2.2.1 vwCl (wL g mc M) H → va_S (AA g s.heap.size) s.heap H locs → W p l e { frames := 3, cells := 0, slots := 0, locals := 73 } s m args below meth c H locs 0 0 (MQ below (QI g s.heap.size q.1 (mc, q.2)) args s 0 0 (AA g s.heap.size)) (F0 m 155 ls []) := by
    intro M hF H locs ls hl hP hS
    unfold F10_passes_b155 at hF
    refine lv_iconst (v := (0 : Int32)) hx hb dX10_passes_155 ic_0 ?_
    exact ret_ZWM Z hr hlk hP hS (Or.inl rfl) hF dX10_passes_156
  have hb139 : ∀ (s0 : Int32) (s1 : Int32) (M : Mem), F10_passes_b139 v1 v2 s0 s1 M = some q → ∀ (H : Heap) (locs : List Loc) (ls : Array Slot), lv_has ls 4 [(0, .ref (g.1 108)), (1, .int v1), (2, .int v2)] → va_P g.2.2.1 vwCl (wL g mc M) H → va_S (AA g s.heap.size) s.heap H locs → W p l e { frames := 3, cells := 0, slots := 0, locals := 73 } s m args below meth c H locs 0 0 (MQ below (QI g s.heap.size q.1 (mc, q.2)) args s 0 0 (AA g s.heap.size)) (F0 m 139 ls [.int s1, .int s0]) := by
    intro s0 s1 M hF H locs ls hl hP hS
    unfold F10_passes_b139 at hF
    refine lv_icmp_ne (tgt := 155) hx hb dX10_passes_139 rfl (fun hc => ?_) (fun hc => ?_)
    · have hF := (if_neg hc).symm.trans hF
      exact hb155 _ hF _ _ _ (lv_sub hl [] rfl) hP hS
    · have hF := (if_pos hc).symm.trans hF
      refine lv_aload_n hx hb dX10_passes_142 rfl (lv_at hl 0 rfl) ?_
      refine lv_iload_n hx hb dX10_passes_143 rfl (lv_at hl 1 rfl) ?_
      refine lv_iload_n hx hb dX10_passes_144 rfl (lv_at hl 2 rfl) ?_
      obtain ⟨q17, hq17, hF⟩ := bd_ok hF
      refine xX10_goes Z hP hS hq17 wd_24_1 hl.1 (Nat.le_of_ble_eq_true rfl) ⟨Nat.le_of_ble_eq_true rfl, Nat.le_of_ble_eq_true rfl⟩ dX10_passes_145 (fun H locs hP hS => ?_)
      refine lv_if_eq (tgt := 155) hx hb dX10_passes_148 rfl (fun hc => ?_) (fun hc => ?_)
      · have hF := (if_pos hc).symm.trans hF
        exact hb155 _ hF _ _ _ (lv_sub hl [] rfl) hP hS
      · have hF := (if_neg hc).symm.trans hF
        refine lv_iconst (v := (1 : Int32)) hx hb dX10_passes_151 ic_1 ?_
        refine lv_goto (tgt := 156) hx hb dX10_passes_152 rfl ?_
        exact ret_ZWM Z hr hlk hP hS (Or.inr rfl) hF dX10_passes_156
  have hb109 : ∀  (M : Mem), F10_passes_b109 v1 v2 M = some q → ∀ (H : Heap) (locs : List Loc) (ls : Array Slot), lv_has ls 4 [(0, .ref (g.1 108)), (1, .int v1), (2, .int v2)] → va_P g.2.2.1 vwCl (wL g mc M) H → va_S (AA g s.heap.size) s.heap H locs → W p l e { frames := 3, cells := 0, slots := 0, locals := 73 } s m args below meth c H locs 0 0 (MQ below (QI g s.heap.size q.1 (mc, q.2)) args s 0 0 (AA g s.heap.size)) (F0 m 109 ls []) := by
    intro M hF H locs ls hl hP hS
    unfold F10_passes_b109 at hF
    refine lv_iload_n hx hb dX10_passes_109 rfl (lv_at hl 1 rfl) ?_
    refine lv_aload_n hx hb dX10_passes_110 rfl (lv_at hl 0 rfl) ?_
    refine gf10_17 Z hP wd_6_14 dX10_passes_111 ?_
    refine lv_iload_n hx hb dX10_passes_114 rfl (lv_at hl 2 rfl) ?_
    obtain ⟨hi18, hF⟩ := ck_ok hF
    refine rM_ld Z hP 8 11 (by decide +kernel) hi18 dX10_passes_115 ?_
    refine lv_isub hx hb dX10_passes_116 ?_
    refine lv_aload_n hx hb dX10_passes_117 rfl (lv_at hl 0 rfl) ?_
    refine gf10_8 Z hP wd_6_10 dX10_passes_118 ?_
    refine lv_iconst (v := (2 : Int32)) hx hb dX10_passes_121 ic_2 ?_
    refine lv_aload_n hx hb dX10_passes_122 rfl (lv_at hl 0 rfl) ?_
    refine gf10_16 Z hP wd_6_13 dX10_passes_123 ?_
    refine lv_iload_n hx hb dX10_passes_126 rfl (lv_at hl 2 rfl) ?_
    obtain ⟨hi19, hF⟩ := ck_ok hF
    refine rM_ld Z hP 8 10 (by decide +kernel) hi19 dX10_passes_127 ?_
    refine lv_imul hx hb dX10_passes_128 ?_
    obtain ⟨hi20, hF⟩ := ck_ok hF
    refine rM_ld Z hP 16 7 (by decide +kernel) hi20 dX10_passes_129 ?_
    refine lv_iconst (v := (2 : Int32)) hx hb dX10_passes_130 ic_2 ?_
    refine lv_icmp_ne (tgt := 138) hx hb dX10_passes_131 rfl (fun hc => ?_) (fun hc => ?_)
    · have hF := (if_neg hc).symm.trans hF
      refine lv_iconst (v := (1 : Int32)) hx hb dX10_passes_138 ic_1 ?_
      exact hb139 _ _ _ hF _ _ _ (lv_sub hl [0, 1, 2] rfl) hP hS
    · have hF := (if_pos hc).symm.trans hF
      refine lv_iconst (v := (2 : Int32)) hx hb dX10_passes_134 ic_2 ?_
      refine lv_goto (tgt := 139) hx hb dX10_passes_135 rfl ?_
      exact hb139 _ _ _ hF _ _ _ (lv_sub hl [0, 1, 2] rfl) hP hS
  have hb42 : ∀  (M : Mem), F10_passes_b42 v1 v2 M = some q → ∀ (H : Heap) (locs : List Loc) (ls : Array Slot), lv_has ls 4 [(0, .ref (g.1 108)), (2, .int v2)] → va_P g.2.2.1 vwCl (wL g mc M) H → va_S (AA g s.heap.size) s.heap H locs → W p l e { frames := 3, cells := 0, slots := 0, locals := 73 } s m args below meth c H locs 0 0 (MQ below (QI g s.heap.size q.1 (mc, q.2)) args s 0 0 (AA g s.heap.size)) (F0 m 42 ls []) := by
    intro M hF H locs ls hl hP hS
    unfold F10_passes_b42 at hF
    refine lv_aload_n hx hb dX10_passes_42 rfl (lv_at hl 0 rfl) ?_
    refine lv_iload_n hx hb dX10_passes_43 rfl (lv_at hl 1 rfl) ?_
    obtain ⟨q21, hq21, hF⟩ := bd_ok hF
    refine xX10_loses Z hP hS hq21 wd_23_5 hl.1 (Nat.le_of_ble_eq_true rfl) ⟨Nat.le_of_ble_eq_true rfl, Nat.le_of_ble_eq_true rfl⟩ dX10_passes_44 (fun H locs hP hS => ?_)
    refine lv_goto (tgt := 64) hx hb dX10_passes_47 rfl ?_
    refine lv_iconst (v := (0 : Int32)) hx hb dX10_passes_64 ic_0 ?_
    exact ret_ZWM Z hr hlk hP hS (Or.inl rfl) hF dX10_passes_65
  refine lv_aload_n hx hb dX10_passes_0 rfl (lv_at hl 0 rfl) ?_
  refine gf10_10 Z hP wd_6_11 dX10_passes_1 ?_
  refine lv_bipush (v := (8 : Int32)) hx hb dX10_passes_4 bp_8 ?_
  refine lv_iload_n hx hb dX10_passes_6 rfl (lv_at hl 2 rfl) ?_
  refine lv_imul hx hb dX10_passes_7 ?_
  obtain ⟨hi22, hF⟩ := ck_ok hF
  refine rM_ld Z hP 64 8 (by decide +kernel) hi22 dX10_passes_8 ?_
  refine lv_iload_n hx hb dX10_passes_9 rfl (lv_at hl 1 rfl) ?_
  refine lv_icmp_ne (tgt := 66) hx hb dX10_passes_10 rfl (fun hc => ?_) (fun hc => ?_)
  · have hF := (if_neg hc).symm.trans hF
    refine lv_aload_n hx hb dX10_passes_66 rfl (lv_at hl 0 rfl) ?_
    refine gf10_16 Z hP wd_6_13 dX10_passes_67 ?_
    refine lv_iload_n hx hb dX10_passes_70 rfl (lv_at hl 2 rfl) ?_
    obtain ⟨hi23, hF⟩ := ck_ok hF
    refine rM_ld Z hP 8 10 (by decide +kernel) hi23 dX10_passes_71 ?_
    refine lv_iconst (v := (-1 : Int32)) hx hb dX10_passes_72 ic_m1 ?_
    refine lv_icmp_ne (tgt := 78) hx hb dX10_passes_73 rfl (fun hc => ?_) (fun hc => ?_)
    · have hF := (if_neg hc).symm.trans hF
      refine lv_aload_n hx hb dX10_passes_78 rfl (lv_at hl 0 rfl) ?_
      obtain ⟨q24, hq24, hF⟩ := bd_ok hF
      refine xX10_lastWell Z hP hS hq24 wd_23_9 hl.1 (Nat.le_of_ble_eq_true rfl) ⟨Nat.le_of_ble_eq_true rfl, Nat.le_of_ble_eq_true rfl⟩ dX10_passes_79 (fun H locs hP hS => ?_)
      refine lv_istore_n (lv' := [(3, .int q24), (0, .ref (g.1 108)), (1, .int v1), (2, .int v2)]) hx hb dX10_passes_82 rfl hl (Nat.le_of_ble_eq_true rfl) rfl (fun ls hl => ?_)
      refine lv_aload_n hx hb dX10_passes_83 rfl (lv_at hl 1 rfl) ?_
      refine lv_iload_n hx hb dX10_passes_84 rfl (lv_at hl 2 rfl) ?_
      obtain ⟨q25, hq25, hF⟩ := bd_ok hF
      refine xX10_isDrought Z hP hS hq25 wd_23_13 hl.1 (Nat.le_of_ble_eq_true rfl) ⟨Nat.le_of_ble_eq_true rfl, Nat.le_of_ble_eq_true rfl⟩ dX10_passes_85 (fun H locs hP hS => ?_)
      refine lv_if_eq (tgt := 109) hx hb dX10_passes_88 rfl (fun hc => ?_) (fun hc => ?_)
      · have hF := (if_pos hc).symm.trans hF
        exact hb109 _ hF _ _ _ (lv_sub hl [1, 2, 3] rfl) hP hS
      · have hF := (if_neg hc).symm.trans hF
        refine lv_aload_n hx hb dX10_passes_91 rfl (lv_at hl 1 rfl) ?_
        refine gf10_16 Z hP wd_6_13 dX10_passes_92 ?_
        refine lv_iload_n hx hb dX10_passes_95 rfl (lv_at hl 3 rfl) ?_
        obtain ⟨hi26, hF⟩ := ck_ok hF
        refine rM_ld Z hP 8 10 (by decide +kernel) hi26 dX10_passes_96 ?_
        refine lv_iload_n hx hb dX10_passes_97 rfl (lv_at hl 0 rfl) ?_
        refine lv_icmp_eq (tgt := 109) hx hb dX10_passes_98 rfl (fun hc => ?_) (fun hc => ?_)
        · have hF := (if_pos hc).symm.trans hF
          exact hb109 _ hF _ _ _ (lv_sub hl [1, 2, 3] rfl) hP hS
        · have hF := (if_neg hc).symm.trans hF
          refine lv_aload_n hx hb dX10_passes_101 rfl (lv_at hl 1 rfl) ?_
          refine lv_iload_n hx hb dX10_passes_102 rfl (lv_at hl 2 rfl) ?_
          refine lv_iload_n hx hb dX10_passes_103 rfl (lv_at hl 3 rfl) ?_
          refine lv_iload_n hx hb dX10_passes_104 rfl (lv_at hl 0 rfl) ?_
          obtain ⟨q27, hq27, hF⟩ := bd_ok hF
          refine xX10_driesUp Z hP hS hq27 wd_23_17 hl.1 (Nat.le_of_ble_eq_true rfl) ⟨Nat.le_of_ble_eq_true rfl, Nat.le_of_ble_eq_true rfl⟩ dX10_passes_105 (fun H locs hP hS => ?_)
          obtain ⟨hbz, hF⟩ := bz_ok hF
          exact ret_ZWM Z hr hlk hP hS hbz hF dX10_passes_108
    · have hF := (if_pos hc).symm.trans hF
      refine lv_iconst (v := (0 : Int32)) hx hb dX10_passes_76 ic_0 ?_
      exact ret_ZWM Z hr hlk hP hS (Or.inl rfl) hF dX10_passes_77
  · have hF := (if_pos hc).symm.trans hF
    refine lv_aload_n hx hb dX10_passes_13 rfl (lv_at hl 0 rfl) ?_
    refine gf10_10 Z hP wd_6_11 dX10_passes_14 ?_
    refine lv_bipush (v := (8 : Int32)) hx hb dX10_passes_17 bp_8 ?_
    refine lv_iload_n hx hb dX10_passes_19 rfl (lv_at hl 2 rfl) ?_
    refine lv_imul hx hb dX10_passes_20 ?_
    refine lv_iconst (v := (1 : Int32)) hx hb dX10_passes_21 ic_1 ?_
    refine lv_iadd hx hb dX10_passes_22 ?_
    obtain ⟨hi28, hF⟩ := ck_ok hF
    refine rM_ld Z hP 64 8 (by decide +kernel) hi28 dX10_passes_23 ?_
    refine lv_istore_n (lv' := [(3, .int (mm 8 (((8 : Int32) * v2) + (1 : Int32)).toNatClampNeg)), (0, .ref (g.1 108)), (1, .int v1), (2, .int v2)]) hx hb dX10_passes_24 rfl hl (Nat.le_of_ble_eq_true rfl) rfl (fun ls hl => ?_)
    refine lv_aload_n hx hb dX10_passes_25 rfl (lv_at hl 1 rfl) ?_
    refine lv_iload_n hx hb dX10_passes_26 rfl (lv_at hl 0 rfl) ?_
    obtain ⟨q29, hq29, hF⟩ := bd_ok hF
    refine xX10_isWell Z hP hS hq29 wd_15_22 hl.1 (Nat.le_of_ble_eq_true rfl) ⟨Nat.le_of_ble_eq_true rfl, Nat.le_of_ble_eq_true rfl⟩ dX10_passes_27 (fun H locs hP hS => ?_)
    refine lv_if_eq (tgt := 42) hx hb dX10_passes_30 rfl (fun hc => ?_) (fun hc => ?_)
    · have hF := (if_pos hc).symm.trans hF
      exact hb42 _ hF _ _ _ (lv_sub hl [1, 3] rfl) hP hS
    · have hF := (if_neg hc).symm.trans hF
      refine lv_aload_n hx hb dX10_passes_33 rfl (lv_at hl 1 rfl) ?_
      refine lv_iload_n hx hb dX10_passes_34 rfl (lv_at hl 2 rfl) ?_
      refine lv_iload_n hx hb dX10_passes_35 rfl (lv_at hl 0 rfl) ?_
      obtain ⟨q30, hq30, hF⟩ := bd_ok hF
      refine xX10_isCovered Z hP hS hq30 wd_22_21 hl.1 (Nat.le_of_ble_eq_true rfl) ⟨Nat.le_of_ble_eq_true rfl, Nat.le_of_ble_eq_true rfl⟩ dX10_passes_36 (fun H locs hP hS => ?_)
      refine lv_if_eq (tgt := 50) hx hb dX10_passes_39 rfl (fun hc => ?_) (fun hc => ?_)
      · have hF := (if_pos hc).symm.trans hF
        refine lv_aload_n hx hb dX10_passes_50 rfl (lv_at hl 1 rfl) ?_
        refine gf10_16 Z hP wd_6_13 dX10_passes_51 ?_
        refine lv_iload_n hx hb dX10_passes_54 rfl (lv_at hl 3 rfl) ?_
        refine lv_iload_n hx hb dX10_passes_55 rfl (lv_at hl 0 rfl) ?_
        obtain ⟨hi31, hF⟩ := ck_ok hF
        refine rM_st Z hP hS 8 10 (by decide +kernel) hi31 dX10_passes_56 (fun H locs hP hS => ?_)
        refine lv_aload_n hx hb dX10_passes_57 rfl (lv_at hl 1 rfl) ?_
        refine gf10_17 Z hP wd_6_14 dX10_passes_58 ?_
        refine lv_iload_n hx hb dX10_passes_61 rfl (lv_at hl 3 rfl) ?_
        refine lv_iload_n hx hb dX10_passes_62 rfl (lv_at hl 2 rfl) ?_
        obtain ⟨hi32, hF⟩ := ck_ok hF
        refine rM_st Z hP hS 8 11 (by decide +kernel) hi32 dX10_passes_63 (fun H locs hP hS => ?_)
        refine lv_iconst (v := (0 : Int32)) hx hb dX10_passes_64 ic_0 ?_
        exact ret_ZWM Z hr hlk hP hS (Or.inl rfl) hF dX10_passes_65
      · have hF := (if_neg hc).symm.trans hF
        exact hb42 _ hF _ _ _ (lv_sub hl [1, 3] rfl) hP hS
theorem xX10_passes {p : Program} {l : Launch} {e : Env} {R : Room} {s : State} {m : MethodId} {args : Array Value} {below : List Frame} {meth : Method} {c : Code} {H : Heap} {locs : List Loc} {Q : State → Prop} {cc : ByteArray} {nL : Nat} {own : String} {g : GG} {pc index : Nat} {ls : Array Slot} {rest : List Value} {mc mm : Mem} (Z : ZZ p s m args c cc nL own g) (hP : va_P g.2.2.1 vwCl (wL g mc mm) H) (hS : va_S (AA g s.heap.size) s.heap H locs) {v1 : Int32} {v2 : Int32} {q : Int32 × Mem} (hq : F10_passes v1 v2 mm = some q) (hlk : Cond.methodLink own index yX10_passes ∈ wsL_law) (hsz : ls.size = nL) (hro : (rest.map fun v => v.category).sum ≤ 8) (hR : 3 + 1 ≤ R.frames ∧ 8 + (4 + 11) + 73 ≤ R.locals) (hdg : decode cc pc = .ok (.invokevirtual index, 3)) (kk : ∀ (H : Heap) (locs : List Loc), va_P g.2.2.1 vwCl (wL g mc q.2) H → va_S (AA g s.heap.size) s.heap H locs → W p l e R s m args below meth c H locs 0 0 Q (F0 m (pc + 3) ls (.int q.1 :: rest))) : W p l e R s m args below meth c H locs 0 0 Q (F0 m pc ls (.int v2 :: .int v1 :: .ref (g.1 108) :: rest)) :=
  x_VI Z hP hS (kX10_passes l g v1 v2 mc mm q hq) (mO) (ci := 10) (by decide) rfl rfl mf_X10_passes mv_X10_passes hlk rfl rfl hsz hro hR hdg kk

theorem dX10_tellsWell_0 : decode cX10_tellsWell 0 = .ok (.aload_n 0, 1) := by decide +kernel
theorem dX10_tellsWell_1 : decode cX10_tellsWell 1 = .ok (.invokevirtual 233, 3) := by decide +kernel
theorem dX10_tellsWell_4 : decode cX10_tellsWell 4 = .ok (.lload_n 1, 1) := by decide +kernel
theorem dX10_tellsWell_5 : decode cX10_tellsWell 5 = .ok (.lstore 4, 2) := by decide +kernel
theorem dX10_tellsWell_7 : decode cX10_tellsWell 7 = .ok (.iconst 0, 1) := by decide +kernel
theorem dX10_tellsWell_8 : decode cX10_tellsWell 8 = .ok (.istore 6, 2) := by decide +kernel
theorem dX10_tellsWell_10 : decode cX10_tellsWell 10 = .ok (.iload 6, 2) := by decide +kernel
theorem dX10_tellsWell_12 : decode cX10_tellsWell 12 = .ok (.iconst 4, 1) := by decide +kernel
theorem dX10_tellsWell_13 : decode cX10_tellsWell 13 = .ok (.if_icmp .ge 26, 3) := by decide +kernel
theorem dX10_tellsWell_16 : decode cX10_tellsWell 16 = .ok (.ldc2_w 345, 3) := by decide +kernel
theorem dX10_tellsWell_19 : decode cX10_tellsWell 19 = .ok (.lload 4, 2) := by decide +kernel
theorem dX10_tellsWell_21 : decode cX10_tellsWell 21 = .ok (.lmul, 1) := by decide +kernel
theorem dX10_tellsWell_22 : decode cX10_tellsWell 22 = .ok (.aload_n 0, 1) := by decide +kernel
theorem dX10_tellsWell_23 : decode cX10_tellsWell 23 = .ok (.iload_n 3, 1) := by decide +kernel
theorem dX10_tellsWell_24 : decode cX10_tellsWell 24 = .ok (.iload 6, 2) := by decide +kernel
theorem dX10_tellsWell_26 : decode cX10_tellsWell 26 = .ok (.invokevirtual 163, 3) := by decide +kernel
theorem dX10_tellsWell_29 : decode cX10_tellsWell 29 = .ok (.i2l, 1) := by decide +kernel
theorem dX10_tellsWell_30 : decode cX10_tellsWell 30 = .ok (.ladd, 1) := by decide +kernel
theorem dX10_tellsWell_31 : decode cX10_tellsWell 31 = .ok (.lstore 4, 2) := by decide +kernel
theorem dX10_tellsWell_33 : decode cX10_tellsWell 33 = .ok (.iinc 6 1, 3) := by decide +kernel
theorem dX10_tellsWell_36 : decode cX10_tellsWell 36 = .ok (.goto (-26), 3) := by decide +kernel
theorem dX10_tellsWell_39 : decode cX10_tellsWell 39 = .ok (.ldc2_w 345, 3) := by decide +kernel
theorem dX10_tellsWell_42 : decode cX10_tellsWell 42 = .ok (.lload 4, 2) := by decide +kernel
theorem dX10_tellsWell_44 : decode cX10_tellsWell 44 = .ok (.lmul, 1) := by decide +kernel
theorem dX10_tellsWell_45 : decode cX10_tellsWell 45 = .ok (.aload_n 0, 1) := by decide +kernel
theorem dX10_tellsWell_46 : decode cX10_tellsWell 46 = .ok (.iload_n 3, 1) := by decide +kernel
theorem dX10_tellsWell_47 : decode cX10_tellsWell 47 = .ok (.invokevirtual 247, 3) := by decide +kernel
theorem dX10_tellsWell_50 : decode cX10_tellsWell 50 = .ok (.i2l, 1) := by decide +kernel
theorem dX10_tellsWell_51 : decode cX10_tellsWell 51 = .ok (.ladd, 1) := by decide +kernel
theorem dX10_tellsWell_52 : decode cX10_tellsWell 52 = .ok (.lstore 4, 2) := by decide +kernel
theorem dX10_tellsWell_54 : decode cX10_tellsWell 54 = .ok (.ldc2_w 345, 3) := by decide +kernel
theorem dX10_tellsWell_57 : decode cX10_tellsWell 57 = .ok (.lload 4, 2) := by decide +kernel
theorem dX10_tellsWell_59 : decode cX10_tellsWell 59 = .ok (.lmul, 1) := by decide +kernel
theorem dX10_tellsWell_60 : decode cX10_tellsWell 60 = .ok (.aload_n 0, 1) := by decide +kernel
theorem dX10_tellsWell_61 : decode cX10_tellsWell 61 = .ok (.iload_n 3, 1) := by decide +kernel
theorem dX10_tellsWell_62 : decode cX10_tellsWell 62 = .ok (.invokevirtual 250, 3) := by decide +kernel
theorem dX10_tellsWell_65 : decode cX10_tellsWell 65 = .ok (.i2l, 1) := by decide +kernel
theorem dX10_tellsWell_66 : decode cX10_tellsWell 66 = .ok (.ladd, 1) := by decide +kernel
theorem dX10_tellsWell_67 : decode cX10_tellsWell 67 = .ok (.lstore 4, 2) := by decide +kernel
theorem dX10_tellsWell_69 : decode cX10_tellsWell 69 = .ok (.iconst 0, 1) := by decide +kernel
theorem dX10_tellsWell_70 : decode cX10_tellsWell 70 = .ok (.istore 6, 2) := by decide +kernel
theorem dX10_tellsWell_72 : decode cX10_tellsWell 72 = .ok (.iload 6, 2) := by decide +kernel
theorem dX10_tellsWell_74 : decode cX10_tellsWell 74 = .ok (.iconst 3, 1) := by decide +kernel
theorem dX10_tellsWell_75 : decode cX10_tellsWell 75 = .ok (.if_icmp .ge 26, 3) := by decide +kernel
theorem dX10_tellsWell_78 : decode cX10_tellsWell 78 = .ok (.ldc2_w 345, 3) := by decide +kernel
theorem dX10_tellsWell_81 : decode cX10_tellsWell 81 = .ok (.lload 4, 2) := by decide +kernel
theorem dX10_tellsWell_83 : decode cX10_tellsWell 83 = .ok (.lmul, 1) := by decide +kernel
theorem dX10_tellsWell_84 : decode cX10_tellsWell 84 = .ok (.aload_n 0, 1) := by decide +kernel
theorem dX10_tellsWell_85 : decode cX10_tellsWell 85 = .ok (.iload_n 3, 1) := by decide +kernel
theorem dX10_tellsWell_86 : decode cX10_tellsWell 86 = .ok (.iload 6, 2) := by decide +kernel
theorem dX10_tellsWell_88 : decode cX10_tellsWell 88 = .ok (.invokevirtual 268, 3) := by decide +kernel
theorem dX10_tellsWell_91 : decode cX10_tellsWell 91 = .ok (.i2l, 1) := by decide +kernel
theorem dX10_tellsWell_92 : decode cX10_tellsWell 92 = .ok (.ladd, 1) := by decide +kernel
theorem dX10_tellsWell_93 : decode cX10_tellsWell 93 = .ok (.lstore 4, 2) := by decide +kernel
theorem dX10_tellsWell_95 : decode cX10_tellsWell 95 = .ok (.iinc 6 1, 3) := by decide +kernel
theorem dX10_tellsWell_98 : decode cX10_tellsWell 98 = .ok (.goto (-26), 3) := by decide +kernel
theorem dX10_tellsWell_101 : decode cX10_tellsWell 101 = .ok (.ldc2_w 345, 3) := by decide +kernel
theorem dX10_tellsWell_104 : decode cX10_tellsWell 104 = .ok (.lload 4, 2) := by decide +kernel
theorem dX10_tellsWell_106 : decode cX10_tellsWell 106 = .ok (.lmul, 1) := by decide +kernel
theorem dX10_tellsWell_107 : decode cX10_tellsWell 107 = .ok (.aload_n 0, 1) := by decide +kernel
theorem dX10_tellsWell_108 : decode cX10_tellsWell 108 = .ok (.iload_n 3, 1) := by decide +kernel
theorem dX10_tellsWell_109 : decode cX10_tellsWell 109 = .ok (.iconst (-1), 1) := by decide +kernel
theorem dX10_tellsWell_110 : decode cX10_tellsWell 110 = .ok (.invokevirtual 279, 3) := by decide +kernel
theorem dX10_tellsWell_113 : decode cX10_tellsWell 113 = .ok (.i2l, 1) := by decide +kernel
theorem dX10_tellsWell_114 : decode cX10_tellsWell 114 = .ok (.ladd, 1) := by decide +kernel
theorem dX10_tellsWell_115 : decode cX10_tellsWell 115 = .ok (.lstore 4, 2) := by decide +kernel
theorem dX10_tellsWell_117 : decode cX10_tellsWell 117 = .ok (.ldc2_w 345, 3) := by decide +kernel
theorem dX10_tellsWell_120 : decode cX10_tellsWell 120 = .ok (.lload 4, 2) := by decide +kernel
theorem dX10_tellsWell_122 : decode cX10_tellsWell 122 = .ok (.lmul, 1) := by decide +kernel
theorem dX10_tellsWell_123 : decode cX10_tellsWell 123 = .ok (.aload_n 0, 1) := by decide +kernel
theorem dX10_tellsWell_124 : decode cX10_tellsWell 124 = .ok (.iload_n 3, 1) := by decide +kernel
theorem dX10_tellsWell_125 : decode cX10_tellsWell 125 = .ok (.iconst 0, 1) := by decide +kernel
theorem dX10_tellsWell_126 : decode cX10_tellsWell 126 = .ok (.invokevirtual 279, 3) := by decide +kernel
theorem dX10_tellsWell_129 : decode cX10_tellsWell 129 = .ok (.i2l, 1) := by decide +kernel
theorem dX10_tellsWell_130 : decode cX10_tellsWell 130 = .ok (.ladd, 1) := by decide +kernel
theorem dX10_tellsWell_131 : decode cX10_tellsWell 131 = .ok (.lstore 4, 2) := by decide +kernel
theorem dX10_tellsWell_133 : decode cX10_tellsWell 133 = .ok (.ldc2_w 345, 3) := by decide +kernel
theorem dX10_tellsWell_136 : decode cX10_tellsWell 136 = .ok (.lload 4, 2) := by decide +kernel
theorem dX10_tellsWell_138 : decode cX10_tellsWell 138 = .ok (.lmul, 1) := by decide +kernel
theorem dX10_tellsWell_139 : decode cX10_tellsWell 139 = .ok (.aload_n 0, 1) := by decide +kernel
theorem dX10_tellsWell_140 : decode cX10_tellsWell 140 = .ok (.iload_n 3, 1) := by decide +kernel
theorem dX10_tellsWell_141 : decode cX10_tellsWell 141 = .ok (.invokevirtual 298, 3) := by decide +kernel
theorem dX10_tellsWell_144 : decode cX10_tellsWell 144 = .ok (.i2l, 1) := by decide +kernel
theorem dX10_tellsWell_145 : decode cX10_tellsWell 145 = .ok (.ladd, 1) := by decide +kernel
theorem dX10_tellsWell_146 : decode cX10_tellsWell 146 = .ok (.lstore 4, 2) := by decide +kernel
theorem dX10_tellsWell_148 : decode cX10_tellsWell 148 = .ok (.ldc2_w 345, 3) := by decide +kernel
theorem dX10_tellsWell_151 : decode cX10_tellsWell 151 = .ok (.lload 4, 2) := by decide +kernel
theorem dX10_tellsWell_153 : decode cX10_tellsWell 153 = .ok (.lmul, 1) := by decide +kernel
theorem dX10_tellsWell_154 : decode cX10_tellsWell 154 = .ok (.aload_n 0, 1) := by decide +kernel
theorem dX10_tellsWell_155 : decode cX10_tellsWell 155 = .ok (.iload_n 3, 1) := by decide +kernel
theorem dX10_tellsWell_156 : decode cX10_tellsWell 156 = .ok (.invokevirtual 301, 3) := by decide +kernel
theorem dX10_tellsWell_159 : decode cX10_tellsWell 159 = .ok (.i2l, 1) := by decide +kernel
theorem dX10_tellsWell_160 : decode cX10_tellsWell 160 = .ok (.ladd, 1) := by decide +kernel
theorem dX10_tellsWell_161 : decode cX10_tellsWell 161 = .ok (.lstore 4, 2) := by decide +kernel
theorem dX10_tellsWell_163 : decode cX10_tellsWell 163 = .ok (.ldc2_w 345, 3) := by decide +kernel
theorem dX10_tellsWell_166 : decode cX10_tellsWell 166 = .ok (.lload 4, 2) := by decide +kernel
theorem dX10_tellsWell_168 : decode cX10_tellsWell 168 = .ok (.lmul, 1) := by decide +kernel
theorem dX10_tellsWell_169 : decode cX10_tellsWell 169 = .ok (.aload_n 0, 1) := by decide +kernel
theorem dX10_tellsWell_170 : decode cX10_tellsWell 170 = .ok (.iload_n 3, 1) := by decide +kernel
theorem dX10_tellsWell_171 : decode cX10_tellsWell 171 = .ok (.invokevirtual 313, 3) := by decide +kernel
theorem dX10_tellsWell_174 : decode cX10_tellsWell 174 = .ok (.i2l, 1) := by decide +kernel
theorem dX10_tellsWell_175 : decode cX10_tellsWell 175 = .ok (.ladd, 1) := by decide +kernel
theorem dX10_tellsWell_176 : decode cX10_tellsWell 176 = .ok (.lreturn, 1) := by decide +kernel
noncomputable def F10_tellsWell_b101 (v1 : Int64) (v3 : Int32) (a4 : Int64) (M : Mem) : Option (Int64 × Mem) :=
  ((F10_openOf v3 (-1 : Int32) M).bind (fun q11 => ((F10_openOf v3 (0 : Int32) q11.2).bind (fun q12 => ((F10_stonesOf v3 q12.2).bind (fun q13 => ((F10_stoodOf v3 q13.2).bind (fun q14 => ((F10_askOf v3 q14.2).bind (fun q15 => (some ((((31 : Int64) * (((31 : Int64) * (((31 : Int64) * (((31 : Int64) * (((31 : Int64) * a4) + q11.1.toInt64)) + q12.1.toInt64)) + q13.1.toInt64)) + q14.1.toInt64)) + q15.1.toInt64), q15.2))))))))))))
noncomputable def F10_tellsWell_p72 (kh : Int64 → Int32 → Mem → Option (Int64 × Mem)) (kx101 : Int64 → Mem → Option (Int64 × Mem)) (v1 : Int64) (v3 : Int32) (a4 : Int64) (a6 : Int32) (M : Mem) : Option (Int64 × Mem) :=
  (if (3 : Int32) ≤ a6 then kx101 a4 M else ((F10_tossOf v3 a6 M).bind (fun q16 => (kh (((31 : Int64) * a4) + q16.1.toInt64) (a6 + (1 : Int32)) q16.2))))
noncomputable def F10_tellsWell_h72 (kx101 : Int64 → Mem → Option (Int64 × Mem)) (v1 : Int64) (v3 : Int32) : Nat → Int64 → Int32 → Mem → Option (Int64 × Mem)
  | 0, _, _, _ => none
  | n + 1, a4, a6, M => F10_tellsWell_p72 (F10_tellsWell_h72 kx101 v1 v3 n) kx101 v1 v3 a4 a6 M
noncomputable def F10_tellsWell_b39 (v1 : Int64) (v3 : Int32) (a4 : Int64) (M : Mem) : Option (Int64 × Mem) :=
  ((F10_hearsOf v3 M).bind (fun q17 => ((F10_soonOf v3 M).bind (fun q18 => ((F10_tellsWell_h72 (F10_tellsWell_b101 v1 v3) v1 v3 FU) (((31 : Int64) * (((31 : Int64) * a4) + q17.toInt64)) + q18.toInt64) (0 : Int32) M)))))
noncomputable def F10_tellsWell_p10 (kh : Int64 → Int32 → Mem → Option (Int64 × Mem)) (kx39 : Int64 → Mem → Option (Int64 × Mem)) (v1 : Int64) (v3 : Int32) (a4 : Int64) (a6 : Int32) (M : Mem) : Option (Int64 × Mem) :=
  (if (4 : Int32) ≤ a6 then kx39 a4 M else ((F10_wellBy v3 a6 M).bind (fun q19 => (kh (((31 : Int64) * a4) + q19.toInt64) (a6 + (1 : Int32)) M))))
noncomputable def F10_tellsWell_h10 (kx39 : Int64 → Mem → Option (Int64 × Mem)) (v1 : Int64) (v3 : Int32) : Nat → Int64 → Int32 → Mem → Option (Int64 × Mem)
  | 0, _, _, _ => none
  | n + 1, a4, a6, M => F10_tellsWell_p10 (F10_tellsWell_h10 kx39 v1 v3 n) kx39 v1 v3 a4 a6 M
noncomputable def F10_tellsWell (v1 : Int64) (v3 : Int32) (mm : Mem) : Option (Int64 × Mem) :=
  ((F10_lives mm).bind (fun q20 => ((F10_tellsWell_h10 (F10_tellsWell_b39 v1 v3) v1 v3 FU) v1 (0 : Int32) q20)))
set_option maxHeartbeats 4000000 in
set_option maxRecDepth 100000 in
theorem kX10_tellsWell (l : Launch) (g : GG) (v1 : Int64) (v3 : Int32) (mc mm : Mem) (q : Int64 × Mem) (hF : F10_tellsWell v1 v3 mm = some q) : KL l yX10_tellsWell cX10_tellsWell 7 9 213 g [.ref (g.1 108), .long v1, .int v3] mc mm q.1 (mc, q.2) := by
  intro sz
  refine x_start (Qc := fun z => QL g z q.1 (mc, q.2)) (by decide +kernel) (Nat.le_of_ble_eq_true rfl) ?_ sz
  intro p e s m args below meth c ls Z hr hlk hP hl
  have hx := Z.1.1
  have hb := Z.1.2.1
  have hown := Z.1.2.2.2.1
  have hts := Z.1.2.2.2.2
  have hS : va_S (AA g s.heap.size) s.heap s.heap [] := va_S.rf
  have hl : lv_has ls 7 [(0, .ref (g.1 108)), (1, .long v1), (3, .int v3)] := hl
  unfold F10_tellsWell at hF
  have hb101 : ∀ (a4 : Int64) (M : Mem), F10_tellsWell_b101 v1 v3 a4 M = some q → ∀ (H : Heap) (locs : List Loc) (ls : Array Slot), lv_has ls 7 [(0, .ref (g.1 108)), (3, .int v3), (4, .long a4)] → va_P g.2.2.1 vwCl (wL g mc M) H → va_S (AA g s.heap.size) s.heap H locs → W p l e { frames := 9, cells := 0, slots := 0, locals := 213 } s m args below meth c H locs 0 0 (MQ below (QL g s.heap.size q.1 (mc, q.2)) args s 0 0 (AA g s.heap.size)) (F0 m 101 ls []) := by
    intro a4 M hF H locs ls hl hP hS
    unfold F10_tellsWell_b101 at hF
    refine lv_ldc2 (v := (31 : Int64)) hx hb hown (hts _ wd_45_3) dX10_tellsWell_101 ?_
    refine lv_lload hx hb dX10_tellsWell_104 (lv_at hl 2 rfl) ?_
    refine lv_lmul hx hb dX10_tellsWell_106 ?_
    refine lv_aload_n hx hb dX10_tellsWell_107 rfl (lv_at hl 0 rfl) ?_
    refine lv_iload_n hx hb dX10_tellsWell_108 rfl (lv_at hl 1 rfl) ?_
    refine lv_iconst (v := (-1 : Int32)) hx hb dX10_tellsWell_109 ic_m1 ?_
    obtain ⟨q11, hq11, hF⟩ := bd_ok hF
    refine xX10_openOf Z hP hS hq11 wd_30_13 hl.1 (Nat.le_of_ble_eq_true rfl) ⟨Nat.le_of_ble_eq_true rfl, Nat.le_of_ble_eq_true rfl⟩ dX10_tellsWell_110 (fun H locs hP hS => ?_)
    refine lv_i2l (v := q11.1.toInt64) hx hb dX10_tellsWell_113 rfl ?_
    refine lv_ladd hx hb dX10_tellsWell_114 ?_
    refine lv_lstore (lv' := [(4, .long (((31 : Int64) * a4) + q11.1.toInt64)), (0, .ref (g.1 108)), (3, .int v3)]) hx hb dX10_tellsWell_115 hl (Nat.le_of_ble_eq_true rfl) rfl (fun ls hl => ?_)
    refine lv_ldc2 (v := (31 : Int64)) hx hb hown (hts _ wd_45_3) dX10_tellsWell_117 ?_
    refine lv_lload hx hb dX10_tellsWell_120 (lv_at hl 0 rfl) ?_
    refine lv_lmul hx hb dX10_tellsWell_122 ?_
    refine lv_aload_n hx hb dX10_tellsWell_123 rfl (lv_at hl 1 rfl) ?_
    refine lv_iload_n hx hb dX10_tellsWell_124 rfl (lv_at hl 2 rfl) ?_
    refine lv_iconst (v := (0 : Int32)) hx hb dX10_tellsWell_125 ic_0 ?_
    obtain ⟨q12, hq12, hF⟩ := bd_ok hF
    refine xX10_openOf Z hP hS hq12 wd_30_13 hl.1 (Nat.le_of_ble_eq_true rfl) ⟨Nat.le_of_ble_eq_true rfl, Nat.le_of_ble_eq_true rfl⟩ dX10_tellsWell_126 (fun H locs hP hS => ?_)
    refine lv_i2l (v := q12.1.toInt64) hx hb dX10_tellsWell_129 rfl ?_
    refine lv_ladd hx hb dX10_tellsWell_130 ?_
    refine lv_lstore (lv' := [(4, .long (((31 : Int64) * (((31 : Int64) * a4) + q11.1.toInt64)) + q12.1.toInt64)), (0, .ref (g.1 108)), (3, .int v3)]) hx hb dX10_tellsWell_131 hl (Nat.le_of_ble_eq_true rfl) rfl (fun ls hl => ?_)
    refine lv_ldc2 (v := (31 : Int64)) hx hb hown (hts _ wd_45_3) dX10_tellsWell_133 ?_
    refine lv_lload hx hb dX10_tellsWell_136 (lv_at hl 0 rfl) ?_
    refine lv_lmul hx hb dX10_tellsWell_138 ?_
    refine lv_aload_n hx hb dX10_tellsWell_139 rfl (lv_at hl 1 rfl) ?_
    refine lv_iload_n hx hb dX10_tellsWell_140 rfl (lv_at hl 2 rfl) ?_
    obtain ⟨q13, hq13, hF⟩ := bd_ok hF
    refine xX10_stonesOf Z hP hS hq13 wd_34_22 hl.1 (Nat.le_of_ble_eq_true rfl) ⟨Nat.le_of_ble_eq_true rfl, Nat.le_of_ble_eq_true rfl⟩ dX10_tellsWell_141 (fun H locs hP hS => ?_)
    refine lv_i2l (v := q13.1.toInt64) hx hb dX10_tellsWell_144 rfl ?_
    refine lv_ladd hx hb dX10_tellsWell_145 ?_
    refine lv_lstore (lv' := [(4, .long (((31 : Int64) * (((31 : Int64) * (((31 : Int64) * a4) + q11.1.toInt64)) + q12.1.toInt64)) + q13.1.toInt64)), (0, .ref (g.1 108)), (3, .int v3)]) hx hb dX10_tellsWell_146 hl (Nat.le_of_ble_eq_true rfl) rfl (fun ls hl => ?_)
    refine lv_ldc2 (v := (31 : Int64)) hx hb hown (hts _ wd_45_3) dX10_tellsWell_148 ?_
    refine lv_lload hx hb dX10_tellsWell_151 (lv_at hl 0 rfl) ?_
    refine lv_lmul hx hb dX10_tellsWell_153 ?_
    refine lv_aload_n hx hb dX10_tellsWell_154 rfl (lv_at hl 1 rfl) ?_
    refine lv_iload_n hx hb dX10_tellsWell_155 rfl (lv_at hl 2 rfl) ?_
    obtain ⟨q14, hq14, hF⟩ := bd_ok hF
    refine xX10_stoodOf Z hP hS hq14 wd_35_2 hl.1 (Nat.le_of_ble_eq_true rfl) ⟨Nat.le_of_ble_eq_true rfl, Nat.le_of_ble_eq_true rfl⟩ dX10_tellsWell_156 (fun H locs hP hS => ?_)
    refine lv_i2l (v := q14.1.toInt64) hx hb dX10_tellsWell_159 rfl ?_
    refine lv_ladd hx hb dX10_tellsWell_160 ?_
    refine lv_lstore (lv' := [(4, .long (((31 : Int64) * (((31 : Int64) * (((31 : Int64) * (((31 : Int64) * a4) + q11.1.toInt64)) + q12.1.toInt64)) + q13.1.toInt64)) + q14.1.toInt64)), (0, .ref (g.1 108)), (3, .int v3)]) hx hb dX10_tellsWell_161 hl (Nat.le_of_ble_eq_true rfl) rfl (fun ls hl => ?_)
    refine lv_ldc2 (v := (31 : Int64)) hx hb hown (hts _ wd_45_3) dX10_tellsWell_163 ?_
    refine lv_lload hx hb dX10_tellsWell_166 (lv_at hl 0 rfl) ?_
    refine lv_lmul hx hb dX10_tellsWell_168 ?_
    refine lv_aload_n hx hb dX10_tellsWell_169 rfl (lv_at hl 1 rfl) ?_
    refine lv_iload_n hx hb dX10_tellsWell_170 rfl (lv_at hl 2 rfl) ?_
    obtain ⟨q15, hq15, hF⟩ := bd_ok hF
    refine xX10_askOf Z hP hS hq15 wd_36_11 hl.1 (Nat.le_of_ble_eq_true rfl) ⟨Nat.le_of_ble_eq_true rfl, Nat.le_of_ble_eq_true rfl⟩ dX10_tellsWell_171 (fun H locs hP hS => ?_)
    refine lv_i2l (v := q15.1.toInt64) hx hb dX10_tellsWell_174 rfl ?_
    refine lv_ladd hx hb dX10_tellsWell_175 ?_
    exact ret_JWM Z hr hlk hP hS hF dX10_tellsWell_176
  have hL72 : ∀ (kx101 : Int64 → Mem → Option (Int64 × Mem)), (∀ (a4 : Int64) (M : Mem), kx101 a4 M = some q → ∀ (H : Heap) (locs : List Loc) (ls : Array Slot), lv_has ls 7 [(0, .ref (g.1 108)), (3, .int v3), (4, .long a4)] → va_P g.2.2.1 vwCl (wL g mc M) H → va_S (AA g s.heap.size) s.heap H locs → W p l e { frames := 9, cells := 0, slots := 0, locals := 213 } s m args below meth c H locs 0 0 (MQ below (QL g s.heap.size q.1 (mc, q.2)) args s 0 0 (AA g s.heap.size)) (F0 m 101 ls [])) → ∀ n : Nat, ∀ (a4 : Int64) (a6 : Int32) (M : Mem), F10_tellsWell_h72 kx101 v1 v3 n a4 a6 M = some q → ∀ (H : Heap) (locs : List Loc) (ls : Array Slot), lv_has ls 7 [(0, .ref (g.1 108)), (3, .int v3), (4, .long a4), (6, .int a6)] → va_P g.2.2.1 vwCl (wL g mc M) H → va_S (AA g s.heap.size) s.heap H locs → W p l e { frames := 9, cells := 0, slots := 0, locals := 213 } s m args below meth c H locs 0 0 (MQ below (QL g s.heap.size q.1 (mc, q.2)) args s 0 0 (AA g s.heap.size)) (F0 m 72 ls []) := by
    intro kx101 hx101 n
    induction n with
    | zero => intro a4 a6 M hF H locs ls hl hP hS; exact absurd hF (fun z => nomatch (show (none : Option _) = some q from z))
    | succ n ih =>
      generalize hkh : F10_tellsWell_h72 kx101 v1 v3 n = kh at ih
      intro a4 a6 M hF H locs ls hl hP hS
      have hF : F10_tellsWell_p72 (F10_tellsWell_h72 kx101 v1 v3 n) kx101 v1 v3 a4 a6 M = some q := hF
      rw [hkh] at hF
      unfold F10_tellsWell_p72 at hF
      refine lv_iload hx hb dX10_tellsWell_72 (lv_at hl 3 rfl) ?_
      refine lv_iconst (v := (3 : Int32)) hx hb dX10_tellsWell_74 ic_3 ?_
      refine lv_icmp_ge (tgt := 101) hx hb dX10_tellsWell_75 rfl (fun hc => ?_) (fun hc => ?_)
      · have hF := (if_pos hc).symm.trans hF
        exact hx101 _ _ hF _ _ _ (lv_sub hl [0, 1, 2] rfl) hP hS
      · have hF := (if_neg hc).symm.trans hF
        refine lv_ldc2 (v := (31 : Int64)) hx hb hown (hts _ wd_45_3) dX10_tellsWell_78 ?_
        refine lv_lload hx hb dX10_tellsWell_81 (lv_at hl 2 rfl) ?_
        refine lv_lmul hx hb dX10_tellsWell_83 ?_
        refine lv_aload_n hx hb dX10_tellsWell_84 rfl (lv_at hl 0 rfl) ?_
        refine lv_iload_n hx hb dX10_tellsWell_85 rfl (lv_at hl 1 rfl) ?_
        refine lv_iload hx hb dX10_tellsWell_86 (lv_at hl 3 rfl) ?_
        obtain ⟨q16, hq16, hF⟩ := bd_ok hF
        refine xX10_tossOf Z hP hS hq16 wd_29_6 hl.1 (Nat.le_of_ble_eq_true rfl) ⟨Nat.le_of_ble_eq_true rfl, Nat.le_of_ble_eq_true rfl⟩ dX10_tellsWell_88 (fun H locs hP hS => ?_)
        refine lv_i2l (v := q16.1.toInt64) hx hb dX10_tellsWell_91 rfl ?_
        refine lv_ladd hx hb dX10_tellsWell_92 ?_
        refine lv_lstore (lv' := [(4, .long (((31 : Int64) * a4) + q16.1.toInt64)), (0, .ref (g.1 108)), (3, .int v3), (6, .int a6)]) hx hb dX10_tellsWell_93 hl (Nat.le_of_ble_eq_true rfl) rfl (fun ls hl => ?_)
        refine lv_iinc (lv' := [(6, .int (a6 + (1 : Int32))), (4, .long (((31 : Int64) * a4) + q16.1.toInt64)), (0, .ref (g.1 108)), (3, .int v3)]) (v := (a6 + (1 : Int32))) hx hb dX10_tellsWell_95 hl (k := 3) rfl (io_1 _) (Nat.le_of_ble_eq_true rfl) rfl (fun ls hl => ?_)
        refine lv_goto (tgt := 72) hx hb dX10_tellsWell_98 rfl ?_
        exact ih _ _ _ hF _ _ _ (lv_sub hl [2, 3, 1, 0] rfl) hP hS
  have hb39 : ∀ (a4 : Int64) (M : Mem), F10_tellsWell_b39 v1 v3 a4 M = some q → ∀ (H : Heap) (locs : List Loc) (ls : Array Slot), lv_has ls 7 [(0, .ref (g.1 108)), (3, .int v3), (4, .long a4)] → va_P g.2.2.1 vwCl (wL g mc M) H → va_S (AA g s.heap.size) s.heap H locs → W p l e { frames := 9, cells := 0, slots := 0, locals := 213 } s m args below meth c H locs 0 0 (MQ below (QL g s.heap.size q.1 (mc, q.2)) args s 0 0 (AA g s.heap.size)) (F0 m 39 ls []) := by
    intro a4 M hF H locs ls hl hP hS
    unfold F10_tellsWell_b39 at hF
    refine lv_ldc2 (v := (31 : Int64)) hx hb hown (hts _ wd_45_3) dX10_tellsWell_39 ?_
    refine lv_lload hx hb dX10_tellsWell_42 (lv_at hl 2 rfl) ?_
    refine lv_lmul hx hb dX10_tellsWell_44 ?_
    refine lv_aload_n hx hb dX10_tellsWell_45 rfl (lv_at hl 0 rfl) ?_
    refine lv_iload_n hx hb dX10_tellsWell_46 rfl (lv_at hl 1 rfl) ?_
    obtain ⟨q17, hq17, hF⟩ := bd_ok hF
    refine xX10_hearsOf Z hP hS hq17 wd_25_6 hl.1 (Nat.le_of_ble_eq_true rfl) ⟨Nat.le_of_ble_eq_true rfl, Nat.le_of_ble_eq_true rfl⟩ dX10_tellsWell_47 (fun H locs hP hS => ?_)
    refine lv_i2l (v := q17.toInt64) hx hb dX10_tellsWell_50 rfl ?_
    refine lv_ladd hx hb dX10_tellsWell_51 ?_
    refine lv_lstore (lv' := [(4, .long (((31 : Int64) * a4) + q17.toInt64)), (0, .ref (g.1 108)), (3, .int v3)]) hx hb dX10_tellsWell_52 hl (Nat.le_of_ble_eq_true rfl) rfl (fun ls hl => ?_)
    refine lv_ldc2 (v := (31 : Int64)) hx hb hown (hts _ wd_45_3) dX10_tellsWell_54 ?_
    refine lv_lload hx hb dX10_tellsWell_57 (lv_at hl 0 rfl) ?_
    refine lv_lmul hx hb dX10_tellsWell_59 ?_
    refine lv_aload_n hx hb dX10_tellsWell_60 rfl (lv_at hl 1 rfl) ?_
    refine lv_iload_n hx hb dX10_tellsWell_61 rfl (lv_at hl 2 rfl) ?_
    obtain ⟨q18, hq18, hF⟩ := bd_ok hF
    refine xX10_soonOf Z hP hS hq18 wd_26_2 hl.1 (Nat.le_of_ble_eq_true rfl) ⟨Nat.le_of_ble_eq_true rfl, Nat.le_of_ble_eq_true rfl⟩ dX10_tellsWell_62 (fun H locs hP hS => ?_)
    refine lv_i2l (v := q18.toInt64) hx hb dX10_tellsWell_65 rfl ?_
    refine lv_ladd hx hb dX10_tellsWell_66 ?_
    refine lv_lstore (lv' := [(4, .long (((31 : Int64) * (((31 : Int64) * a4) + q17.toInt64)) + q18.toInt64)), (0, .ref (g.1 108)), (3, .int v3)]) hx hb dX10_tellsWell_67 hl (Nat.le_of_ble_eq_true rfl) rfl (fun ls hl => ?_)
    refine lv_iconst (v := (0 : Int32)) hx hb dX10_tellsWell_69 ic_0 ?_
    refine lv_istore (lv' := [(6, .int (0 : Int32)), (4, .long (((31 : Int64) * (((31 : Int64) * a4) + q17.toInt64)) + q18.toInt64)), (0, .ref (g.1 108)), (3, .int v3)]) hx hb dX10_tellsWell_70 hl (Nat.le_of_ble_eq_true rfl) rfl (fun ls hl => ?_)
    exact (hL72 _ hb101 FU) _ _ _ hF _ _ _ (lv_sub hl [2, 3, 1, 0] rfl) hP hS
  have hL10 : ∀ (kx39 : Int64 → Mem → Option (Int64 × Mem)), (∀ (a4 : Int64) (M : Mem), kx39 a4 M = some q → ∀ (H : Heap) (locs : List Loc) (ls : Array Slot), lv_has ls 7 [(0, .ref (g.1 108)), (3, .int v3), (4, .long a4)] → va_P g.2.2.1 vwCl (wL g mc M) H → va_S (AA g s.heap.size) s.heap H locs → W p l e { frames := 9, cells := 0, slots := 0, locals := 213 } s m args below meth c H locs 0 0 (MQ below (QL g s.heap.size q.1 (mc, q.2)) args s 0 0 (AA g s.heap.size)) (F0 m 39 ls [])) → ∀ n : Nat, ∀ (a4 : Int64) (a6 : Int32) (M : Mem), F10_tellsWell_h10 kx39 v1 v3 n a4 a6 M = some q → ∀ (H : Heap) (locs : List Loc) (ls : Array Slot), lv_has ls 7 [(0, .ref (g.1 108)), (3, .int v3), (4, .long a4), (6, .int a6)] → va_P g.2.2.1 vwCl (wL g mc M) H → va_S (AA g s.heap.size) s.heap H locs → W p l e { frames := 9, cells := 0, slots := 0, locals := 213 } s m args below meth c H locs 0 0 (MQ below (QL g s.heap.size q.1 (mc, q.2)) args s 0 0 (AA g s.heap.size)) (F0 m 10 ls []) := by
    intro kx39 hx39 n
    induction n with
    | zero => intro a4 a6 M hF H locs ls hl hP hS; exact absurd hF (fun z => nomatch (show (none : Option _) = some q from z))
    | succ n ih =>
      generalize hkh : F10_tellsWell_h10 kx39 v1 v3 n = kh at ih
      intro a4 a6 M hF H locs ls hl hP hS
      have hF : F10_tellsWell_p10 (F10_tellsWell_h10 kx39 v1 v3 n) kx39 v1 v3 a4 a6 M = some q := hF
      rw [hkh] at hF
      unfold F10_tellsWell_p10 at hF
      refine lv_iload hx hb dX10_tellsWell_10 (lv_at hl 3 rfl) ?_
      refine lv_iconst (v := (4 : Int32)) hx hb dX10_tellsWell_12 ic_4 ?_
      refine lv_icmp_ge (tgt := 39) hx hb dX10_tellsWell_13 rfl (fun hc => ?_) (fun hc => ?_)
      · have hF := (if_pos hc).symm.trans hF
        exact hx39 _ _ hF _ _ _ (lv_sub hl [0, 1, 2] rfl) hP hS
      · have hF := (if_neg hc).symm.trans hF
        refine lv_ldc2 (v := (31 : Int64)) hx hb hown (hts _ wd_45_3) dX10_tellsWell_16 ?_
        refine lv_lload hx hb dX10_tellsWell_19 (lv_at hl 2 rfl) ?_
        refine lv_lmul hx hb dX10_tellsWell_21 ?_
        refine lv_aload_n hx hb dX10_tellsWell_22 rfl (lv_at hl 0 rfl) ?_
        refine lv_iload_n hx hb dX10_tellsWell_23 rfl (lv_at hl 1 rfl) ?_
        refine lv_iload hx hb dX10_tellsWell_24 (lv_at hl 3 rfl) ?_
        obtain ⟨q19, hq19, hF⟩ := bd_ok hF
        refine xX10_wellBy Z hP hS hq19 wd_16_2 hl.1 (Nat.le_of_ble_eq_true rfl) ⟨Nat.le_of_ble_eq_true rfl, Nat.le_of_ble_eq_true rfl⟩ dX10_tellsWell_26 (fun H locs hP hS => ?_)
        refine lv_i2l (v := q19.toInt64) hx hb dX10_tellsWell_29 rfl ?_
        refine lv_ladd hx hb dX10_tellsWell_30 ?_
        refine lv_lstore (lv' := [(4, .long (((31 : Int64) * a4) + q19.toInt64)), (0, .ref (g.1 108)), (3, .int v3), (6, .int a6)]) hx hb dX10_tellsWell_31 hl (Nat.le_of_ble_eq_true rfl) rfl (fun ls hl => ?_)
        refine lv_iinc (lv' := [(6, .int (a6 + (1 : Int32))), (4, .long (((31 : Int64) * a4) + q19.toInt64)), (0, .ref (g.1 108)), (3, .int v3)]) (v := (a6 + (1 : Int32))) hx hb dX10_tellsWell_33 hl (k := 3) rfl (io_1 _) (Nat.le_of_ble_eq_true rfl) rfl (fun ls hl => ?_)
        refine lv_goto (tgt := 10) hx hb dX10_tellsWell_36 rfl ?_
        exact ih _ _ _ hF _ _ _ (lv_sub hl [2, 3, 1, 0] rfl) hP hS
  refine lv_aload_n hx hb dX10_tellsWell_0 rfl (lv_at hl 0 rfl) ?_
  obtain ⟨q20, hq20, hF⟩ := bd_ok hF
  refine xX10_lives Z hP hS hq20 wd_22_9 hl.1 (Nat.le_of_ble_eq_true rfl) ⟨Nat.le_of_ble_eq_true rfl, Nat.le_of_ble_eq_true rfl⟩ dX10_tellsWell_1 (fun H locs hP hS => ?_)
  refine lv_lload_n hx hb dX10_tellsWell_4 rfl (lv_at hl 1 rfl) ?_
  refine lv_lstore (lv' := [(4, .long v1), (0, .ref (g.1 108)), (1, .long v1), (3, .int v3)]) hx hb dX10_tellsWell_5 hl (Nat.le_of_ble_eq_true rfl) rfl (fun ls hl => ?_)
  refine lv_iconst (v := (0 : Int32)) hx hb dX10_tellsWell_7 ic_0 ?_
  refine lv_istore (lv' := [(6, .int (0 : Int32)), (4, .long v1), (0, .ref (g.1 108)), (1, .long v1), (3, .int v3)]) hx hb dX10_tellsWell_8 hl (Nat.le_of_ble_eq_true rfl) rfl (fun ls hl => ?_)
  exact (hL10 _ hb39 FU) _ _ _ hF _ _ _ (lv_sub hl [2, 4, 1, 0] rfl) hP hS
theorem xX10_tellsWell {p : Program} {l : Launch} {e : Env} {R : Room} {s : State} {m : MethodId} {args : Array Value} {below : List Frame} {meth : Method} {c : Code} {H : Heap} {locs : List Loc} {Q : State → Prop} {cc : ByteArray} {nL : Nat} {own : String} {g : GG} {pc index : Nat} {ls : Array Slot} {rest : List Value} {mc mm : Mem} (Z : ZZ p s m args c cc nL own g) (hP : va_P g.2.2.1 vwCl (wL g mc mm) H) (hS : va_S (AA g s.heap.size) s.heap H locs) {v1 : Int64} {v3 : Int32} {q : Int64 × Mem} (hq : F10_tellsWell v1 v3 mm = some q) (hlk : Cond.methodLink own index yX10_tellsWell ∈ wsL_law) (hsz : ls.size = nL) (hro : (rest.map fun v => v.category).sum ≤ 8) (hR : 9 + 1 ≤ R.frames ∧ 8 + (7 + 11) + 213 ≤ R.locals) (hdg : decode cc pc = .ok (.invokevirtual index, 3)) (kk : ∀ (H : Heap) (locs : List Loc), va_P g.2.2.1 vwCl (wL g mc q.2) H → va_S (AA g s.heap.size) s.heap H locs → W p l e R s m args below meth c H locs 0 0 Q (F0 m (pc + 3) ls (.long q.1 :: rest))) : W p l e R s m args below meth c H locs 0 0 Q (F0 m pc ls (.int v3 :: .long v1 :: .ref (g.1 108) :: rest)) :=
  x_VL Z hP hS (kX10_tellsWell l g v1 v3 mc mm q hq) (mO) (ci := 10) (by decide) rfl rfl mf_X10_tellsWell mv_X10_tellsWell hlk rfl rfl hsz hro hR hdg kk
theorem dX10_tellsHour_0 : decode cX10_tellsHour 0 = .ok (.lload_n 1, 1) := by decide +kernel
theorem dX10_tellsHour_1 : decode cX10_tellsHour 1 = .ok (.lstore 5, 2) := by decide +kernel
theorem dX10_tellsHour_3 : decode cX10_tellsHour 3 = .ok (.iconst 0, 1) := by decide +kernel
theorem dX10_tellsHour_4 : decode cX10_tellsHour 4 = .ok (.istore 7, 2) := by decide +kernel
theorem dX10_tellsHour_6 : decode cX10_tellsHour 6 = .ok (.iload 7, 2) := by decide +kernel
theorem dX10_tellsHour_8 : decode cX10_tellsHour 8 = .ok (.iconst 5, 1) := by decide +kernel
theorem dX10_tellsHour_9 : decode cX10_tellsHour 9 = .ok (.if_icmp .ge 28, 3) := by decide +kernel
theorem dX10_tellsHour_12 : decode cX10_tellsHour 12 = .ok (.ldc2_w 345, 3) := by decide +kernel
theorem dX10_tellsHour_15 : decode cX10_tellsHour 15 = .ok (.lload 5, 2) := by decide +kernel
theorem dX10_tellsHour_17 : decode cX10_tellsHour 17 = .ok (.lmul, 1) := by decide +kernel
theorem dX10_tellsHour_18 : decode cX10_tellsHour 18 = .ok (.aload_n 0, 1) := by decide +kernel
theorem dX10_tellsHour_19 : decode cX10_tellsHour 19 = .ok (.iload_n 3, 1) := by decide +kernel
theorem dX10_tellsHour_20 : decode cX10_tellsHour 20 = .ok (.iload 4, 2) := by decide +kernel
theorem dX10_tellsHour_22 : decode cX10_tellsHour 22 = .ok (.iload 7, 2) := by decide +kernel
theorem dX10_tellsHour_24 : decode cX10_tellsHour 24 = .ok (.invokevirtual 241, 3) := by decide +kernel
theorem dX10_tellsHour_27 : decode cX10_tellsHour 27 = .ok (.i2l, 1) := by decide +kernel
theorem dX10_tellsHour_28 : decode cX10_tellsHour 28 = .ok (.ladd, 1) := by decide +kernel
theorem dX10_tellsHour_29 : decode cX10_tellsHour 29 = .ok (.lstore 5, 2) := by decide +kernel
theorem dX10_tellsHour_31 : decode cX10_tellsHour 31 = .ok (.iinc 7 1, 3) := by decide +kernel
theorem dX10_tellsHour_34 : decode cX10_tellsHour 34 = .ok (.goto (-28), 3) := by decide +kernel
theorem dX10_tellsHour_37 : decode cX10_tellsHour 37 = .ok (.lload 5, 2) := by decide +kernel
theorem dX10_tellsHour_39 : decode cX10_tellsHour 39 = .ok (.lreturn, 1) := by decide +kernel
noncomputable def F10_tellsHour_p6 (kh : Int64 → Int32 → Option (Int64)) (v1 : Int64) (v3 : Int32) (v4 : Int32) (mm : Mem) (a5 : Int64) (a7 : Int32) : Option (Int64) :=
  (if (5 : Int32) ≤ a7 then some a5 else ((F10_atOf v3 v4 a7 mm).bind (fun q2 => (kh (((31 : Int64) * a5) + q2.toInt64) (a7 + (1 : Int32))))))
noncomputable def F10_tellsHour_h6 (v1 : Int64) (v3 : Int32) (v4 : Int32) (mm : Mem) : Nat → Int64 → Int32 → Option (Int64)
  | 0, _, _ => none
  | n + 1, a5, a7 => F10_tellsHour_p6 (F10_tellsHour_h6 v1 v3 v4 mm n) v1 v3 v4 mm a5 a7
noncomputable def F10_tellsHour (v1 : Int64) (v3 : Int32) (v4 : Int32) (mm : Mem) : Option (Int64) :=
  (F10_tellsHour_h6 v1 v3 v4 mm FU) v1 (0 : Int32)
set_option maxHeartbeats 4000000 in
set_option maxRecDepth 100000 in
theorem kX10_tellsHour (l : Launch) (g : GG) (v1 : Int64) (v3 : Int32) (v4 : Int32) (mc mm : Mem) (q : Int64) (hF : F10_tellsHour v1 v3 v4 mm = some q) : KL l yX10_tellsHour cX10_tellsHour 8 1 25 g [.ref (g.1 108), .long v1, .int v3, .int v4] mc mm q (mc, mm) := by
  intro sz
  refine x_start (Qc := fun z => QL g z q (mc, mm)) (by decide +kernel) (Nat.le_of_ble_eq_true rfl) ?_ sz
  intro p e s m args below meth c ls Z hr hlk hP hl
  have hx := Z.1.1
  have hb := Z.1.2.1
  have hown := Z.1.2.2.2.1
  have hts := Z.1.2.2.2.2
  have hS : va_S (AA g s.heap.size) s.heap s.heap [] := va_S.rf
  have hl : lv_has ls 8 [(0, .ref (g.1 108)), (1, .long v1), (3, .int v3), (4, .int v4)] := hl
  unfold F10_tellsHour at hF
  have hL6 : ∀ n : Nat, ∀ (a5 : Int64) (a7 : Int32), F10_tellsHour_h6 v1 v3 v4 mm n a5 a7 = some q → ∀ (H : Heap) (locs : List Loc) (ls : Array Slot), lv_has ls 8 [(0, .ref (g.1 108)), (3, .int v3), (4, .int v4), (5, .long a5), (7, .int a7)] → va_P g.2.2.1 vwCl (wL g mc mm) H → va_S (AA g s.heap.size) s.heap H locs → W p l e { frames := 1, cells := 0, slots := 0, locals := 25 } s m args below meth c H locs 0 0 (MQ below (QL g s.heap.size q (mc, mm)) args s 0 0 (AA g s.heap.size)) (F0 m 6 ls []) := by
    intro n
    induction n with
    | zero => intro a5 a7 hF H locs ls hl hP hS; exact absurd hF (fun z => nomatch (show (none : Option _) = some q from z))
    | succ n ih =>
      generalize hkh : F10_tellsHour_h6 v1 v3 v4 mm n = kh at ih
      intro a5 a7 hF H locs ls hl hP hS
      have hF : F10_tellsHour_p6 (F10_tellsHour_h6 v1 v3 v4 mm n) v1 v3 v4 mm a5 a7 = some q := hF
      rw [hkh] at hF
      unfold F10_tellsHour_p6 at hF
      refine lv_iload hx hb dX10_tellsHour_6 (lv_at hl 4 rfl) ?_
      refine lv_iconst (v := (5 : Int32)) hx hb dX10_tellsHour_8 ic_5 ?_
      refine lv_icmp_ge (tgt := 37) hx hb dX10_tellsHour_9 rfl (fun hc => ?_) (fun hc => ?_)
      · have hF := (if_pos hc).symm.trans hF
        refine lv_lload hx hb dX10_tellsHour_37 (lv_at hl 3 rfl) ?_
        exact ret_J Z hr hlk hP hS hF dX10_tellsHour_39
      · have hF := (if_neg hc).symm.trans hF
        refine lv_ldc2 (v := (31 : Int64)) hx hb hown (hts _ wd_45_3) dX10_tellsHour_12 ?_
        refine lv_lload hx hb dX10_tellsHour_15 (lv_at hl 3 rfl) ?_
        refine lv_lmul hx hb dX10_tellsHour_17 ?_
        refine lv_aload_n hx hb dX10_tellsHour_18 rfl (lv_at hl 0 rfl) ?_
        refine lv_iload_n hx hb dX10_tellsHour_19 rfl (lv_at hl 1 rfl) ?_
        refine lv_iload hx hb dX10_tellsHour_20 (lv_at hl 2 rfl) ?_
        refine lv_iload hx hb dX10_tellsHour_22 (lv_at hl 4 rfl) ?_
        obtain ⟨q2, hq2, hF⟩ := bd_ok hF
        refine xX10_atOf Z hP hS hq2 wd_24_14 hl.1 (Nat.le_of_ble_eq_true rfl) ⟨Nat.le_of_ble_eq_true rfl, Nat.le_of_ble_eq_true rfl⟩ dX10_tellsHour_24 (fun H locs hP hS => ?_)
        refine lv_i2l (v := q2.toInt64) hx hb dX10_tellsHour_27 rfl ?_
        refine lv_ladd hx hb dX10_tellsHour_28 ?_
        refine lv_lstore (lv' := [(5, .long (((31 : Int64) * a5) + q2.toInt64)), (0, .ref (g.1 108)), (3, .int v3), (4, .int v4), (7, .int a7)]) hx hb dX10_tellsHour_29 hl (Nat.le_of_ble_eq_true rfl) rfl (fun ls hl => ?_)
        refine lv_iinc (lv' := [(7, .int (a7 + (1 : Int32))), (5, .long (((31 : Int64) * a5) + q2.toInt64)), (0, .ref (g.1 108)), (3, .int v3), (4, .int v4)]) (v := (a7 + (1 : Int32))) hx hb dX10_tellsHour_31 hl (k := 4) rfl (io_1 _) (Nat.le_of_ble_eq_true rfl) rfl (fun ls hl => ?_)
        refine lv_goto (tgt := 6) hx hb dX10_tellsHour_34 rfl ?_
        exact ih _ _ hF _ _ _ (lv_sub hl [2, 3, 4, 1, 0] rfl) hP hS
  refine lv_lload_n hx hb dX10_tellsHour_0 rfl (lv_at hl 1 rfl) ?_
  refine lv_lstore (lv' := [(5, .long v1), (0, .ref (g.1 108)), (1, .long v1), (3, .int v3), (4, .int v4)]) hx hb dX10_tellsHour_1 hl (Nat.le_of_ble_eq_true rfl) rfl (fun ls hl => ?_)
  refine lv_iconst (v := (0 : Int32)) hx hb dX10_tellsHour_3 ic_0 ?_
  refine lv_istore (lv' := [(7, .int (0 : Int32)), (5, .long v1), (0, .ref (g.1 108)), (1, .long v1), (3, .int v3), (4, .int v4)]) hx hb dX10_tellsHour_4 hl (Nat.le_of_ble_eq_true rfl) rfl (fun ls hl => ?_)
  exact (hL6 FU) _ _ hF _ _ _ (lv_sub hl [2, 4, 5, 1, 0] rfl) hP hS
theorem xX10_tellsHour {p : Program} {l : Launch} {e : Env} {R : Room} {s : State} {m : MethodId} {args : Array Value} {below : List Frame} {meth : Method} {c : Code} {H : Heap} {locs : List Loc} {Q : State → Prop} {cc : ByteArray} {nL : Nat} {own : String} {g : GG} {pc index : Nat} {ls : Array Slot} {rest : List Value} {mc mm : Mem} (Z : ZZ p s m args c cc nL own g) (hP : va_P g.2.2.1 vwCl (wL g mc mm) H) (hS : va_S (AA g s.heap.size) s.heap H locs) {v1 : Int64} {v3 : Int32} {v4 : Int32} {q : Int64} (hq : F10_tellsHour v1 v3 v4 mm = some q) (hlk : Cond.methodLink own index yX10_tellsHour ∈ wsL_law) (hsz : ls.size = nL) (hro : (rest.map fun v => v.category).sum ≤ 8) (hR : 1 + 1 ≤ R.frames ∧ 8 + (8 + 11) + 25 ≤ R.locals) (hdg : decode cc pc = .ok (.invokevirtual index, 3)) (kk : ∀ (H : Heap) (locs : List Loc), va_P g.2.2.1 vwCl (wL g mc mm) H → va_S (AA g s.heap.size) s.heap H locs → W p l e R s m args below meth c H locs 0 0 Q (F0 m (pc + 3) ls (.long q :: rest))) : W p l e R s m args below meth c H locs 0 0 Q (F0 m pc ls (.int v4 :: .int v3 :: .long v1 :: .ref (g.1 108) :: rest)) :=
  x_VL Z hP hS (kX10_tellsHour l g v1 v3 v4 mc mm q hq) (mO) (ci := 10) (by decide) rfl rfl mf_X10_tellsHour mv_X10_tellsHour hlk rfl rfl hsz hro hR hdg kk
theorem dX10_tellsSaying_0 : decode cX10_tellsSaying 0 = .ok (.aload_n 0, 1) := by decide +kernel
theorem dX10_tellsSaying_1 : decode cX10_tellsSaying 1 = .ok (.invokevirtual 233, 3) := by decide +kernel
theorem dX10_tellsSaying_4 : decode cX10_tellsSaying 4 = .ok (.lload_n 1, 1) := by decide +kernel
theorem dX10_tellsSaying_5 : decode cX10_tellsSaying 5 = .ok (.lstore 4, 2) := by decide +kernel
theorem dX10_tellsSaying_7 : decode cX10_tellsSaying 7 = .ok (.iconst 0, 1) := by decide +kernel
theorem dX10_tellsSaying_8 : decode cX10_tellsSaying 8 = .ok (.istore 6, 2) := by decide +kernel
theorem dX10_tellsSaying_10 : decode cX10_tellsSaying 10 = .ok (.iload 6, 2) := by decide +kernel
theorem dX10_tellsSaying_12 : decode cX10_tellsSaying 12 = .ok (.bipush 8, 2) := by decide +kernel
theorem dX10_tellsSaying_14 : decode cX10_tellsSaying 14 = .ok (.if_icmp .ge 26, 3) := by decide +kernel
theorem dX10_tellsSaying_17 : decode cX10_tellsSaying 17 = .ok (.ldc2_w 345, 3) := by decide +kernel
theorem dX10_tellsSaying_20 : decode cX10_tellsSaying 20 = .ok (.lload 4, 2) := by decide +kernel
theorem dX10_tellsSaying_22 : decode cX10_tellsSaying 22 = .ok (.lmul, 1) := by decide +kernel
theorem dX10_tellsSaying_23 : decode cX10_tellsSaying 23 = .ok (.aload_n 0, 1) := by decide +kernel
theorem dX10_tellsSaying_24 : decode cX10_tellsSaying 24 = .ok (.iload_n 3, 1) := by decide +kernel
theorem dX10_tellsSaying_25 : decode cX10_tellsSaying 25 = .ok (.iload 6, 2) := by decide +kernel
theorem dX10_tellsSaying_27 : decode cX10_tellsSaying 27 = .ok (.invokevirtual 169, 3) := by decide +kernel
theorem dX10_tellsSaying_30 : decode cX10_tellsSaying 30 = .ok (.i2l, 1) := by decide +kernel
theorem dX10_tellsSaying_31 : decode cX10_tellsSaying 31 = .ok (.ladd, 1) := by decide +kernel
theorem dX10_tellsSaying_32 : decode cX10_tellsSaying 32 = .ok (.lstore 4, 2) := by decide +kernel
theorem dX10_tellsSaying_34 : decode cX10_tellsSaying 34 = .ok (.iinc 6 1, 3) := by decide +kernel
theorem dX10_tellsSaying_37 : decode cX10_tellsSaying 37 = .ok (.goto (-27), 3) := by decide +kernel
theorem dX10_tellsSaying_40 : decode cX10_tellsSaying 40 = .ok (.aload_n 0, 1) := by decide +kernel
theorem dX10_tellsSaying_41 : decode cX10_tellsSaying 41 = .ok (.aload_n 0, 1) := by decide +kernel
theorem dX10_tellsSaying_42 : decode cX10_tellsSaying 42 = .ok (.aload_n 0, 1) := by decide +kernel
theorem dX10_tellsSaying_43 : decode cX10_tellsSaying 43 = .ok (.aload_n 0, 1) := by decide +kernel
theorem dX10_tellsSaying_44 : decode cX10_tellsSaying 44 = .ok (.lload 4, 2) := by decide +kernel
theorem dX10_tellsSaying_46 : decode cX10_tellsSaying 46 = .ok (.iconst 0, 1) := by decide +kernel
theorem dX10_tellsSaying_47 : decode cX10_tellsSaying 47 = .ok (.iload_n 3, 1) := by decide +kernel
theorem dX10_tellsSaying_48 : decode cX10_tellsSaying 48 = .ok (.invokevirtual 347, 3) := by decide +kernel
theorem dX10_tellsSaying_51 : decode cX10_tellsSaying 51 = .ok (.bipush 8, 2) := by decide +kernel
theorem dX10_tellsSaying_53 : decode cX10_tellsSaying 53 = .ok (.iload_n 3, 1) := by decide +kernel
theorem dX10_tellsSaying_54 : decode cX10_tellsSaying 54 = .ok (.invokevirtual 347, 3) := by decide +kernel
theorem dX10_tellsSaying_57 : decode cX10_tellsSaying 57 = .ok (.bipush 20, 2) := by decide +kernel
theorem dX10_tellsSaying_59 : decode cX10_tellsSaying 59 = .ok (.iload_n 3, 1) := by decide +kernel
theorem dX10_tellsSaying_60 : decode cX10_tellsSaying 60 = .ok (.invokevirtual 347, 3) := by decide +kernel
theorem dX10_tellsSaying_63 : decode cX10_tellsSaying 63 = .ok (.bipush 39, 2) := by decide +kernel
theorem dX10_tellsSaying_65 : decode cX10_tellsSaying 65 = .ok (.iload_n 3, 1) := by decide +kernel
theorem dX10_tellsSaying_66 : decode cX10_tellsSaying 66 = .ok (.invokevirtual 347, 3) := by decide +kernel
theorem dX10_tellsSaying_69 : decode cX10_tellsSaying 69 = .ok (.lstore 4, 2) := by decide +kernel
theorem dX10_tellsSaying_71 : decode cX10_tellsSaying 71 = .ok (.ldc2_w 345, 3) := by decide +kernel
theorem dX10_tellsSaying_74 : decode cX10_tellsSaying 74 = .ok (.lload 4, 2) := by decide +kernel
theorem dX10_tellsSaying_76 : decode cX10_tellsSaying 76 = .ok (.lmul, 1) := by decide +kernel
theorem dX10_tellsSaying_77 : decode cX10_tellsSaying 77 = .ok (.aload_n 0, 1) := by decide +kernel
theorem dX10_tellsSaying_78 : decode cX10_tellsSaying 78 = .ok (.iload_n 3, 1) := by decide +kernel
theorem dX10_tellsSaying_79 : decode cX10_tellsSaying 79 = .ok (.iconst 0, 1) := by decide +kernel
theorem dX10_tellsSaying_80 : decode cX10_tellsSaying 80 = .ok (.iconst 0, 1) := by decide +kernel
theorem dX10_tellsSaying_81 : decode cX10_tellsSaying 81 = .ok (.invokevirtual 259, 3) := by decide +kernel
theorem dX10_tellsSaying_84 : decode cX10_tellsSaying 84 = .ok (.i2l, 1) := by decide +kernel
theorem dX10_tellsSaying_85 : decode cX10_tellsSaying 85 = .ok (.ladd, 1) := by decide +kernel
theorem dX10_tellsSaying_86 : decode cX10_tellsSaying 86 = .ok (.lstore 4, 2) := by decide +kernel
theorem dX10_tellsSaying_88 : decode cX10_tellsSaying 88 = .ok (.ldc2_w 345, 3) := by decide +kernel
theorem dX10_tellsSaying_91 : decode cX10_tellsSaying 91 = .ok (.lload 4, 2) := by decide +kernel
theorem dX10_tellsSaying_93 : decode cX10_tellsSaying 93 = .ok (.lmul, 1) := by decide +kernel
theorem dX10_tellsSaying_94 : decode cX10_tellsSaying 94 = .ok (.aload_n 0, 1) := by decide +kernel
theorem dX10_tellsSaying_95 : decode cX10_tellsSaying 95 = .ok (.iload_n 3, 1) := by decide +kernel
theorem dX10_tellsSaying_96 : decode cX10_tellsSaying 96 = .ok (.iconst 0, 1) := by decide +kernel
theorem dX10_tellsSaying_97 : decode cX10_tellsSaying 97 = .ok (.iconst 1, 1) := by decide +kernel
theorem dX10_tellsSaying_98 : decode cX10_tellsSaying 98 = .ok (.invokevirtual 259, 3) := by decide +kernel
theorem dX10_tellsSaying_101 : decode cX10_tellsSaying 101 = .ok (.i2l, 1) := by decide +kernel
theorem dX10_tellsSaying_102 : decode cX10_tellsSaying 102 = .ok (.ladd, 1) := by decide +kernel
theorem dX10_tellsSaying_103 : decode cX10_tellsSaying 103 = .ok (.lstore 4, 2) := by decide +kernel
theorem dX10_tellsSaying_105 : decode cX10_tellsSaying 105 = .ok (.ldc2_w 345, 3) := by decide +kernel
theorem dX10_tellsSaying_108 : decode cX10_tellsSaying 108 = .ok (.lload 4, 2) := by decide +kernel
theorem dX10_tellsSaying_110 : decode cX10_tellsSaying 110 = .ok (.lmul, 1) := by decide +kernel
theorem dX10_tellsSaying_111 : decode cX10_tellsSaying 111 = .ok (.aload_n 0, 1) := by decide +kernel
theorem dX10_tellsSaying_112 : decode cX10_tellsSaying 112 = .ok (.iload_n 3, 1) := by decide +kernel
theorem dX10_tellsSaying_113 : decode cX10_tellsSaying 113 = .ok (.invokevirtual 307, 3) := by decide +kernel
theorem dX10_tellsSaying_116 : decode cX10_tellsSaying 116 = .ok (.i2l, 1) := by decide +kernel
theorem dX10_tellsSaying_117 : decode cX10_tellsSaying 117 = .ok (.ladd, 1) := by decide +kernel
theorem dX10_tellsSaying_118 : decode cX10_tellsSaying 118 = .ok (.lstore 4, 2) := by decide +kernel
theorem dX10_tellsSaying_120 : decode cX10_tellsSaying 120 = .ok (.ldc2_w 345, 3) := by decide +kernel
theorem dX10_tellsSaying_123 : decode cX10_tellsSaying 123 = .ok (.lload 4, 2) := by decide +kernel
theorem dX10_tellsSaying_125 : decode cX10_tellsSaying 125 = .ok (.lmul, 1) := by decide +kernel
theorem dX10_tellsSaying_126 : decode cX10_tellsSaying 126 = .ok (.aload_n 0, 1) := by decide +kernel
theorem dX10_tellsSaying_127 : decode cX10_tellsSaying 127 = .ok (.iconst 5, 1) := by decide +kernel
theorem dX10_tellsSaying_128 : decode cX10_tellsSaying 128 = .ok (.iload_n 3, 1) := by decide +kernel
theorem dX10_tellsSaying_129 : decode cX10_tellsSaying 129 = .ok (.iconst 0, 1) := by decide +kernel
theorem dX10_tellsSaying_130 : decode cX10_tellsSaying 130 = .ok (.iconst 0, 1) := by decide +kernel
theorem dX10_tellsSaying_131 : decode cX10_tellsSaying 131 = .ok (.invokevirtual 322, 3) := by decide +kernel
theorem dX10_tellsSaying_134 : decode cX10_tellsSaying 134 = .ok (.ladd, 1) := by decide +kernel
theorem dX10_tellsSaying_135 : decode cX10_tellsSaying 135 = .ok (.lstore 4, 2) := by decide +kernel
theorem dX10_tellsSaying_137 : decode cX10_tellsSaying 137 = .ok (.ldc2_w 345, 3) := by decide +kernel
theorem dX10_tellsSaying_140 : decode cX10_tellsSaying 140 = .ok (.lload 4, 2) := by decide +kernel
theorem dX10_tellsSaying_142 : decode cX10_tellsSaying 142 = .ok (.lmul, 1) := by decide +kernel
theorem dX10_tellsSaying_143 : decode cX10_tellsSaying 143 = .ok (.aload_n 0, 1) := by decide +kernel
theorem dX10_tellsSaying_144 : decode cX10_tellsSaying 144 = .ok (.iconst 5, 1) := by decide +kernel
theorem dX10_tellsSaying_145 : decode cX10_tellsSaying 145 = .ok (.iload_n 3, 1) := by decide +kernel
theorem dX10_tellsSaying_146 : decode cX10_tellsSaying 146 = .ok (.iconst 0, 1) := by decide +kernel
theorem dX10_tellsSaying_147 : decode cX10_tellsSaying 147 = .ok (.iconst 1, 1) := by decide +kernel
theorem dX10_tellsSaying_148 : decode cX10_tellsSaying 148 = .ok (.invokevirtual 322, 3) := by decide +kernel
theorem dX10_tellsSaying_151 : decode cX10_tellsSaying 151 = .ok (.ladd, 1) := by decide +kernel
theorem dX10_tellsSaying_152 : decode cX10_tellsSaying 152 = .ok (.lreturn, 1) := by decide +kernel
noncomputable def F10_tellsSaying_b40 (v1 : Int64) (v3 : Int32) (a4 : Int64) (M : Mem) : Option (Int64 × Mem) :=
  ((F10_tellsHour a4 (0 : Int32) v3 M).bind (fun q12 => ((F10_tellsHour q12 (8 : Int32) v3 M).bind (fun q13 => ((F10_tellsHour q13 (20 : Int32) v3 M).bind (fun q14 => ((F10_tellsHour q14 (39 : Int32) v3 M).bind (fun q15 => ((F10_tellOf v3 (0 : Int32) (0 : Int32) M).bind (fun q16 => ((F10_tellOf v3 (0 : Int32) (1 : Int32) q16.2).bind (fun q17 => ((F10_bucketOf v3 q17.2).bind (fun q18 => ((F10_chanceOf (5 : Int32) v3 (0 : Int32) (0 : Int32) q18.2).bind (fun q19 => ((F10_chanceOf (5 : Int32) v3 (0 : Int32) (1 : Int32) q19.2).bind (fun q20 => (some ((((31 : Int64) * (((31 : Int64) * (((31 : Int64) * (((31 : Int64) * (((31 : Int64) * q15) + q16.1.toInt64)) + q17.1.toInt64)) + q18.1.toInt64)) + q19.1)) + q20.1), q20.2))))))))))))))))))))
noncomputable def F10_tellsSaying_p10 (kh : Int64 → Int32 → Mem → Option (Int64 × Mem)) (kx40 : Int64 → Mem → Option (Int64 × Mem)) (v1 : Int64) (v3 : Int32) (a4 : Int64) (a6 : Int32) (M : Mem) : Option (Int64 × Mem) :=
  (if (8 : Int32) ≤ a6 then kx40 a4 M else ((F10_sayingBy v3 a6 M).bind (fun q21 => (kh (((31 : Int64) * a4) + q21.toInt64) (a6 + (1 : Int32)) M))))
noncomputable def F10_tellsSaying_h10 (kx40 : Int64 → Mem → Option (Int64 × Mem)) (v1 : Int64) (v3 : Int32) : Nat → Int64 → Int32 → Mem → Option (Int64 × Mem)
  | 0, _, _, _ => none
  | n + 1, a4, a6, M => F10_tellsSaying_p10 (F10_tellsSaying_h10 kx40 v1 v3 n) kx40 v1 v3 a4 a6 M
noncomputable def F10_tellsSaying (v1 : Int64) (v3 : Int32) (mm : Mem) : Option (Int64 × Mem) :=
  ((F10_lives mm).bind (fun q22 => ((F10_tellsSaying_h10 (F10_tellsSaying_b40 v1 v3) v1 v3 FU) v1 (0 : Int32) q22)))
set_option maxHeartbeats 4000000 in
set_option maxRecDepth 100000 in
theorem kX10_tellsSaying (l : Launch) (g : GG) (v1 : Int64) (v3 : Int32) (mc mm : Mem) (q : Int64 × Mem) (hF : F10_tellsSaying v1 v3 mm = some q) : KL l yX10_tellsSaying cX10_tellsSaying 7 8 186 g [.ref (g.1 108), .long v1, .int v3] mc mm q.1 (mc, q.2) := by
  intro sz
  refine x_start (Qc := fun z => QL g z q.1 (mc, q.2)) (by decide +kernel) (Nat.le_of_ble_eq_true rfl) ?_ sz
  intro p e s m args below meth c ls Z hr hlk hP hl
  have hx := Z.1.1
  have hb := Z.1.2.1
  have hown := Z.1.2.2.2.1
  have hts := Z.1.2.2.2.2
  have hS : va_S (AA g s.heap.size) s.heap s.heap [] := va_S.rf
  have hl : lv_has ls 7 [(0, .ref (g.1 108)), (1, .long v1), (3, .int v3)] := hl
  unfold F10_tellsSaying at hF
  have hb40 : ∀ (a4 : Int64) (M : Mem), F10_tellsSaying_b40 v1 v3 a4 M = some q → ∀ (H : Heap) (locs : List Loc) (ls : Array Slot), lv_has ls 7 [(0, .ref (g.1 108)), (3, .int v3), (4, .long a4)] → va_P g.2.2.1 vwCl (wL g mc M) H → va_S (AA g s.heap.size) s.heap H locs → W p l e { frames := 8, cells := 0, slots := 0, locals := 186 } s m args below meth c H locs 0 0 (MQ below (QL g s.heap.size q.1 (mc, q.2)) args s 0 0 (AA g s.heap.size)) (F0 m 40 ls []) := by
    intro a4 M hF H locs ls hl hP hS
    unfold F10_tellsSaying_b40 at hF
    refine lv_aload_n hx hb dX10_tellsSaying_40 rfl (lv_at hl 0 rfl) ?_
    refine lv_aload_n hx hb dX10_tellsSaying_41 rfl (lv_at hl 0 rfl) ?_
    refine lv_aload_n hx hb dX10_tellsSaying_42 rfl (lv_at hl 0 rfl) ?_
    refine lv_aload_n hx hb dX10_tellsSaying_43 rfl (lv_at hl 0 rfl) ?_
    refine lv_lload hx hb dX10_tellsSaying_44 (lv_at hl 2 rfl) ?_
    refine lv_iconst (v := (0 : Int32)) hx hb dX10_tellsSaying_46 ic_0 ?_
    refine lv_iload_n hx hb dX10_tellsSaying_47 rfl (lv_at hl 1 rfl) ?_
    obtain ⟨q12, hq12, hF⟩ := bd_ok hF
    refine xX10_tellsHour Z hP hS hq12 wd_45_13 hl.1 (Nat.le_of_ble_eq_true rfl) ⟨Nat.le_of_ble_eq_true rfl, Nat.le_of_ble_eq_true rfl⟩ dX10_tellsSaying_48 (fun H locs hP hS => ?_)
    refine lv_bipush (v := (8 : Int32)) hx hb dX10_tellsSaying_51 bp_8 ?_
    refine lv_iload_n hx hb dX10_tellsSaying_53 rfl (lv_at hl 1 rfl) ?_
    obtain ⟨q13, hq13, hF⟩ := bd_ok hF
    refine xX10_tellsHour Z hP hS hq13 wd_45_13 hl.1 (Nat.le_of_ble_eq_true rfl) ⟨Nat.le_of_ble_eq_true rfl, Nat.le_of_ble_eq_true rfl⟩ dX10_tellsSaying_54 (fun H locs hP hS => ?_)
    refine lv_bipush (v := (20 : Int32)) hx hb dX10_tellsSaying_57 bp_20 ?_
    refine lv_iload_n hx hb dX10_tellsSaying_59 rfl (lv_at hl 1 rfl) ?_
    obtain ⟨q14, hq14, hF⟩ := bd_ok hF
    refine xX10_tellsHour Z hP hS hq14 wd_45_13 hl.1 (Nat.le_of_ble_eq_true rfl) ⟨Nat.le_of_ble_eq_true rfl, Nat.le_of_ble_eq_true rfl⟩ dX10_tellsSaying_60 (fun H locs hP hS => ?_)
    refine lv_bipush (v := (39 : Int32)) hx hb dX10_tellsSaying_63 bp_39 ?_
    refine lv_iload_n hx hb dX10_tellsSaying_65 rfl (lv_at hl 1 rfl) ?_
    obtain ⟨q15, hq15, hF⟩ := bd_ok hF
    refine xX10_tellsHour Z hP hS hq15 wd_45_13 hl.1 (Nat.le_of_ble_eq_true rfl) ⟨Nat.le_of_ble_eq_true rfl, Nat.le_of_ble_eq_true rfl⟩ dX10_tellsSaying_66 (fun H locs hP hS => ?_)
    refine lv_lstore (lv' := [(4, .long q15), (0, .ref (g.1 108)), (3, .int v3)]) hx hb dX10_tellsSaying_69 hl (Nat.le_of_ble_eq_true rfl) rfl (fun ls hl => ?_)
    refine lv_ldc2 (v := (31 : Int64)) hx hb hown (hts _ wd_45_3) dX10_tellsSaying_71 ?_
    refine lv_lload hx hb dX10_tellsSaying_74 (lv_at hl 0 rfl) ?_
    refine lv_lmul hx hb dX10_tellsSaying_76 ?_
    refine lv_aload_n hx hb dX10_tellsSaying_77 rfl (lv_at hl 1 rfl) ?_
    refine lv_iload_n hx hb dX10_tellsSaying_78 rfl (lv_at hl 2 rfl) ?_
    refine lv_iconst (v := (0 : Int32)) hx hb dX10_tellsSaying_79 ic_0 ?_
    refine lv_iconst (v := (0 : Int32)) hx hb dX10_tellsSaying_80 ic_0 ?_
    obtain ⟨q16, hq16, hF⟩ := bd_ok hF
    refine xX10_tellOf Z hP hS hq16 wd_27_22 hl.1 (Nat.le_of_ble_eq_true rfl) ⟨Nat.le_of_ble_eq_true rfl, Nat.le_of_ble_eq_true rfl⟩ dX10_tellsSaying_81 (fun H locs hP hS => ?_)
    refine lv_i2l (v := q16.1.toInt64) hx hb dX10_tellsSaying_84 rfl ?_
    refine lv_ladd hx hb dX10_tellsSaying_85 ?_
    refine lv_lstore (lv' := [(4, .long (((31 : Int64) * q15) + q16.1.toInt64)), (0, .ref (g.1 108)), (3, .int v3)]) hx hb dX10_tellsSaying_86 hl (Nat.le_of_ble_eq_true rfl) rfl (fun ls hl => ?_)
    refine lv_ldc2 (v := (31 : Int64)) hx hb hown (hts _ wd_45_3) dX10_tellsSaying_88 ?_
    refine lv_lload hx hb dX10_tellsSaying_91 (lv_at hl 0 rfl) ?_
    refine lv_lmul hx hb dX10_tellsSaying_93 ?_
    refine lv_aload_n hx hb dX10_tellsSaying_94 rfl (lv_at hl 1 rfl) ?_
    refine lv_iload_n hx hb dX10_tellsSaying_95 rfl (lv_at hl 2 rfl) ?_
    refine lv_iconst (v := (0 : Int32)) hx hb dX10_tellsSaying_96 ic_0 ?_
    refine lv_iconst (v := (1 : Int32)) hx hb dX10_tellsSaying_97 ic_1 ?_
    obtain ⟨q17, hq17, hF⟩ := bd_ok hF
    refine xX10_tellOf Z hP hS hq17 wd_27_22 hl.1 (Nat.le_of_ble_eq_true rfl) ⟨Nat.le_of_ble_eq_true rfl, Nat.le_of_ble_eq_true rfl⟩ dX10_tellsSaying_98 (fun H locs hP hS => ?_)
    refine lv_i2l (v := q17.1.toInt64) hx hb dX10_tellsSaying_101 rfl ?_
    refine lv_ladd hx hb dX10_tellsSaying_102 ?_
    refine lv_lstore (lv' := [(4, .long (((31 : Int64) * (((31 : Int64) * q15) + q16.1.toInt64)) + q17.1.toInt64)), (0, .ref (g.1 108)), (3, .int v3)]) hx hb dX10_tellsSaying_103 hl (Nat.le_of_ble_eq_true rfl) rfl (fun ls hl => ?_)
    refine lv_ldc2 (v := (31 : Int64)) hx hb hown (hts _ wd_45_3) dX10_tellsSaying_105 ?_
    refine lv_lload hx hb dX10_tellsSaying_108 (lv_at hl 0 rfl) ?_
    refine lv_lmul hx hb dX10_tellsSaying_110 ?_
    refine lv_aload_n hx hb dX10_tellsSaying_111 rfl (lv_at hl 1 rfl) ?_
    refine lv_iload_n hx hb dX10_tellsSaying_112 rfl (lv_at hl 2 rfl) ?_
    obtain ⟨q18, hq18, hF⟩ := bd_ok hF
    refine xX10_bucketOf Z hP hS hq18 wd_35_14 hl.1 (Nat.le_of_ble_eq_true rfl) ⟨Nat.le_of_ble_eq_true rfl, Nat.le_of_ble_eq_true rfl⟩ dX10_tellsSaying_113 (fun H locs hP hS => ?_)
    refine lv_i2l (v := q18.1.toInt64) hx hb dX10_tellsSaying_116 rfl ?_
    refine lv_ladd hx hb dX10_tellsSaying_117 ?_
    refine lv_lstore (lv' := [(4, .long (((31 : Int64) * (((31 : Int64) * (((31 : Int64) * q15) + q16.1.toInt64)) + q17.1.toInt64)) + q18.1.toInt64)), (0, .ref (g.1 108)), (3, .int v3)]) hx hb dX10_tellsSaying_118 hl (Nat.le_of_ble_eq_true rfl) rfl (fun ls hl => ?_)
    refine lv_ldc2 (v := (31 : Int64)) hx hb hown (hts _ wd_45_3) dX10_tellsSaying_120 ?_
    refine lv_lload hx hb dX10_tellsSaying_123 (lv_at hl 0 rfl) ?_
    refine lv_lmul hx hb dX10_tellsSaying_125 ?_
    refine lv_aload_n hx hb dX10_tellsSaying_126 rfl (lv_at hl 1 rfl) ?_
    refine lv_iconst (v := (5 : Int32)) hx hb dX10_tellsSaying_127 ic_5 ?_
    refine lv_iload_n hx hb dX10_tellsSaying_128 rfl (lv_at hl 2 rfl) ?_
    refine lv_iconst (v := (0 : Int32)) hx hb dX10_tellsSaying_129 ic_0 ?_
    refine lv_iconst (v := (0 : Int32)) hx hb dX10_tellsSaying_130 ic_0 ?_
    obtain ⟨q19, hq19, hF⟩ := bd_ok hF
    refine xX10_chanceOf Z hP hS hq19 wd_37_14 hl.1 (Nat.le_of_ble_eq_true rfl) ⟨Nat.le_of_ble_eq_true rfl, Nat.le_of_ble_eq_true rfl⟩ dX10_tellsSaying_131 (fun H locs hP hS => ?_)
    refine lv_ladd hx hb dX10_tellsSaying_134 ?_
    refine lv_lstore (lv' := [(4, .long (((31 : Int64) * (((31 : Int64) * (((31 : Int64) * (((31 : Int64) * q15) + q16.1.toInt64)) + q17.1.toInt64)) + q18.1.toInt64)) + q19.1)), (0, .ref (g.1 108)), (3, .int v3)]) hx hb dX10_tellsSaying_135 hl (Nat.le_of_ble_eq_true rfl) rfl (fun ls hl => ?_)
    refine lv_ldc2 (v := (31 : Int64)) hx hb hown (hts _ wd_45_3) dX10_tellsSaying_137 ?_
    refine lv_lload hx hb dX10_tellsSaying_140 (lv_at hl 0 rfl) ?_
    refine lv_lmul hx hb dX10_tellsSaying_142 ?_
    refine lv_aload_n hx hb dX10_tellsSaying_143 rfl (lv_at hl 1 rfl) ?_
    refine lv_iconst (v := (5 : Int32)) hx hb dX10_tellsSaying_144 ic_5 ?_
    refine lv_iload_n hx hb dX10_tellsSaying_145 rfl (lv_at hl 2 rfl) ?_
    refine lv_iconst (v := (0 : Int32)) hx hb dX10_tellsSaying_146 ic_0 ?_
    refine lv_iconst (v := (1 : Int32)) hx hb dX10_tellsSaying_147 ic_1 ?_
    obtain ⟨q20, hq20, hF⟩ := bd_ok hF
    refine xX10_chanceOf Z hP hS hq20 wd_37_14 hl.1 (Nat.le_of_ble_eq_true rfl) ⟨Nat.le_of_ble_eq_true rfl, Nat.le_of_ble_eq_true rfl⟩ dX10_tellsSaying_148 (fun H locs hP hS => ?_)
    refine lv_ladd hx hb dX10_tellsSaying_151 ?_
    exact ret_JWM Z hr hlk hP hS hF dX10_tellsSaying_152
  have hL10 : ∀ (kx40 : Int64 → Mem → Option (Int64 × Mem)), (∀ (a4 : Int64) (M : Mem), kx40 a4 M = some q → ∀ (H : Heap) (locs : List Loc) (ls : Array Slot), lv_has ls 7 [(0, .ref (g.1 108)), (3, .int v3), (4, .long a4)] → va_P g.2.2.1 vwCl (wL g mc M) H → va_S (AA g s.heap.size) s.heap H locs → W p l e { frames := 8, cells := 0, slots := 0, locals := 186 } s m args below meth c H locs 0 0 (MQ below (QL g s.heap.size q.1 (mc, q.2)) args s 0 0 (AA g s.heap.size)) (F0 m 40 ls [])) → ∀ n : Nat, ∀ (a4 : Int64) (a6 : Int32) (M : Mem), F10_tellsSaying_h10 kx40 v1 v3 n a4 a6 M = some q → ∀ (H : Heap) (locs : List Loc) (ls : Array Slot), lv_has ls 7 [(0, .ref (g.1 108)), (3, .int v3), (4, .long a4), (6, .int a6)] → va_P g.2.2.1 vwCl (wL g mc M) H → va_S (AA g s.heap.size) s.heap H locs → W p l e { frames := 8, cells := 0, slots := 0, locals := 186 } s m args below meth c H locs 0 0 (MQ below (QL g s.heap.size q.1 (mc, q.2)) args s 0 0 (AA g s.heap.size)) (F0 m 10 ls []) := by
    intro kx40 hx40 n
    induction n with
    | zero => intro a4 a6 M hF H locs ls hl hP hS; exact absurd hF (fun z => nomatch (show (none : Option _) = some q from z))
    | succ n ih =>
      generalize hkh : F10_tellsSaying_h10 kx40 v1 v3 n = kh at ih
      intro a4 a6 M hF H locs ls hl hP hS
      have hF : F10_tellsSaying_p10 (F10_tellsSaying_h10 kx40 v1 v3 n) kx40 v1 v3 a4 a6 M = some q := hF
      rw [hkh] at hF
      unfold F10_tellsSaying_p10 at hF
      refine lv_iload hx hb dX10_tellsSaying_10 (lv_at hl 3 rfl) ?_
      refine lv_bipush (v := (8 : Int32)) hx hb dX10_tellsSaying_12 bp_8 ?_
      refine lv_icmp_ge (tgt := 40) hx hb dX10_tellsSaying_14 rfl (fun hc => ?_) (fun hc => ?_)
      · have hF := (if_pos hc).symm.trans hF
        exact hx40 _ _ hF _ _ _ (lv_sub hl [0, 1, 2] rfl) hP hS
      · have hF := (if_neg hc).symm.trans hF
        refine lv_ldc2 (v := (31 : Int64)) hx hb hown (hts _ wd_45_3) dX10_tellsSaying_17 ?_
        refine lv_lload hx hb dX10_tellsSaying_20 (lv_at hl 2 rfl) ?_
        refine lv_lmul hx hb dX10_tellsSaying_22 ?_
        refine lv_aload_n hx hb dX10_tellsSaying_23 rfl (lv_at hl 0 rfl) ?_
        refine lv_iload_n hx hb dX10_tellsSaying_24 rfl (lv_at hl 1 rfl) ?_
        refine lv_iload hx hb dX10_tellsSaying_25 (lv_at hl 3 rfl) ?_
        obtain ⟨q21, hq21, hF⟩ := bd_ok hF
        refine xX10_sayingBy Z hP hS hq21 wd_17_7 hl.1 (Nat.le_of_ble_eq_true rfl) ⟨Nat.le_of_ble_eq_true rfl, Nat.le_of_ble_eq_true rfl⟩ dX10_tellsSaying_27 (fun H locs hP hS => ?_)
        refine lv_i2l (v := q21.toInt64) hx hb dX10_tellsSaying_30 rfl ?_
        refine lv_ladd hx hb dX10_tellsSaying_31 ?_
        refine lv_lstore (lv' := [(4, .long (((31 : Int64) * a4) + q21.toInt64)), (0, .ref (g.1 108)), (3, .int v3), (6, .int a6)]) hx hb dX10_tellsSaying_32 hl (Nat.le_of_ble_eq_true rfl) rfl (fun ls hl => ?_)
        refine lv_iinc (lv' := [(6, .int (a6 + (1 : Int32))), (4, .long (((31 : Int64) * a4) + q21.toInt64)), (0, .ref (g.1 108)), (3, .int v3)]) (v := (a6 + (1 : Int32))) hx hb dX10_tellsSaying_34 hl (k := 3) rfl (io_1 _) (Nat.le_of_ble_eq_true rfl) rfl (fun ls hl => ?_)
        refine lv_goto (tgt := 10) hx hb dX10_tellsSaying_37 rfl ?_
        exact ih _ _ _ hF _ _ _ (lv_sub hl [2, 3, 1, 0] rfl) hP hS
  refine lv_aload_n hx hb dX10_tellsSaying_0 rfl (lv_at hl 0 rfl) ?_
  obtain ⟨q22, hq22, hF⟩ := bd_ok hF
  refine xX10_lives Z hP hS hq22 wd_22_9 hl.1 (Nat.le_of_ble_eq_true rfl) ⟨Nat.le_of_ble_eq_true rfl, Nat.le_of_ble_eq_true rfl⟩ dX10_tellsSaying_1 (fun H locs hP hS => ?_)
  refine lv_lload_n hx hb dX10_tellsSaying_4 rfl (lv_at hl 1 rfl) ?_
  refine lv_lstore (lv' := [(4, .long v1), (0, .ref (g.1 108)), (1, .long v1), (3, .int v3)]) hx hb dX10_tellsSaying_5 hl (Nat.le_of_ble_eq_true rfl) rfl (fun ls hl => ?_)
  refine lv_iconst (v := (0 : Int32)) hx hb dX10_tellsSaying_7 ic_0 ?_
  refine lv_istore (lv' := [(6, .int (0 : Int32)), (4, .long v1), (0, .ref (g.1 108)), (1, .long v1), (3, .int v3)]) hx hb dX10_tellsSaying_8 hl (Nat.le_of_ble_eq_true rfl) rfl (fun ls hl => ?_)
  exact (hL10 _ hb40 FU) _ _ _ hF _ _ _ (lv_sub hl [2, 4, 1, 0] rfl) hP hS
theorem xX10_tellsSaying {p : Program} {l : Launch} {e : Env} {R : Room} {s : State} {m : MethodId} {args : Array Value} {below : List Frame} {meth : Method} {c : Code} {H : Heap} {locs : List Loc} {Q : State → Prop} {cc : ByteArray} {nL : Nat} {own : String} {g : GG} {pc index : Nat} {ls : Array Slot} {rest : List Value} {mc mm : Mem} (Z : ZZ p s m args c cc nL own g) (hP : va_P g.2.2.1 vwCl (wL g mc mm) H) (hS : va_S (AA g s.heap.size) s.heap H locs) {v1 : Int64} {v3 : Int32} {q : Int64 × Mem} (hq : F10_tellsSaying v1 v3 mm = some q) (hlk : Cond.methodLink own index yX10_tellsSaying ∈ wsL_law) (hsz : ls.size = nL) (hro : (rest.map fun v => v.category).sum ≤ 8) (hR : 8 + 1 ≤ R.frames ∧ 8 + (7 + 11) + 186 ≤ R.locals) (hdg : decode cc pc = .ok (.invokevirtual index, 3)) (kk : ∀ (H : Heap) (locs : List Loc), va_P g.2.2.1 vwCl (wL g mc q.2) H → va_S (AA g s.heap.size) s.heap H locs → W p l e R s m args below meth c H locs 0 0 Q (F0 m (pc + 3) ls (.long q.1 :: rest))) : W p l e R s m args below meth c H locs 0 0 Q (F0 m pc ls (.int v3 :: .long v1 :: .ref (g.1 108) :: rest)) :=
  x_VL Z hP hS (kX10_tellsSaying l g v1 v3 mc mm q hq) (mO) (ci := 10) (by decide) rfl rfl mf_X10_tellsSaying mv_X10_tellsSaying hlk rfl rfl hsz hro hR hdg kk

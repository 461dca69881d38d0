theorem dX9_withWell_0 : decode cX9_withWell 0 = .ok (.lload_n 1, 1) := by decide +kernel
theorem dX9_withWell_1 : decode cX9_withWell 1 = .ok (.lstore 4, 2) := by decide +kernel
theorem dX9_withWell_3 : decode cX9_withWell 3 = .ok (.iconst 0, 1) := by decide +kernel
theorem dX9_withWell_4 : decode cX9_withWell 4 = .ok (.istore 6, 2) := by decide +kernel
theorem dX9_withWell_6 : decode cX9_withWell 6 = .ok (.iload 6, 2) := by decide +kernel
theorem dX9_withWell_8 : decode cX9_withWell 8 = .ok (.iconst 4, 1) := by decide +kernel
theorem dX9_withWell_9 : decode cX9_withWell 9 = .ok (.if_icmp .ge 26, 3) := by decide +kernel
theorem dX9_withWell_12 : decode cX9_withWell 12 = .ok (.ldc2_w 314, 3) := by decide +kernel
theorem dX9_withWell_15 : decode cX9_withWell 15 = .ok (.lload 4, 2) := by decide +kernel
theorem dX9_withWell_17 : decode cX9_withWell 17 = .ok (.lmul, 1) := by decide +kernel
theorem dX9_withWell_18 : decode cX9_withWell 18 = .ok (.aload_n 0, 1) := by decide +kernel
theorem dX9_withWell_19 : decode cX9_withWell 19 = .ok (.iload_n 3, 1) := by decide +kernel
theorem dX9_withWell_20 : decode cX9_withWell 20 = .ok (.iload 6, 2) := by decide +kernel
theorem dX9_withWell_22 : decode cX9_withWell 22 = .ok (.invokevirtual 339, 3) := by decide +kernel
theorem dX9_withWell_25 : decode cX9_withWell 25 = .ok (.i2l, 1) := by decide +kernel
theorem dX9_withWell_26 : decode cX9_withWell 26 = .ok (.ladd, 1) := by decide +kernel
theorem dX9_withWell_27 : decode cX9_withWell 27 = .ok (.lstore 4, 2) := by decide +kernel
theorem dX9_withWell_29 : decode cX9_withWell 29 = .ok (.iinc 6 1, 3) := by decide +kernel
theorem dX9_withWell_32 : decode cX9_withWell 32 = .ok (.goto (-26), 3) := by decide +kernel
theorem dX9_withWell_35 : decode cX9_withWell 35 = .ok (.ldc2_w 314, 3) := by decide +kernel
theorem dX9_withWell_38 : decode cX9_withWell 38 = .ok (.lload 4, 2) := by decide +kernel
theorem dX9_withWell_40 : decode cX9_withWell 40 = .ok (.lmul, 1) := by decide +kernel
theorem dX9_withWell_41 : decode cX9_withWell 41 = .ok (.aload_n 0, 1) := by decide +kernel
theorem dX9_withWell_42 : decode cX9_withWell 42 = .ok (.iload_n 3, 1) := by decide +kernel
theorem dX9_withWell_43 : decode cX9_withWell 43 = .ok (.invokevirtual 341, 3) := by decide +kernel
theorem dX9_withWell_46 : decode cX9_withWell 46 = .ok (.i2l, 1) := by decide +kernel
theorem dX9_withWell_47 : decode cX9_withWell 47 = .ok (.ladd, 1) := by decide +kernel
theorem dX9_withWell_48 : decode cX9_withWell 48 = .ok (.lstore 4, 2) := by decide +kernel
theorem dX9_withWell_50 : decode cX9_withWell 50 = .ok (.ldc2_w 314, 3) := by decide +kernel
theorem dX9_withWell_53 : decode cX9_withWell 53 = .ok (.lload 4, 2) := by decide +kernel
theorem dX9_withWell_55 : decode cX9_withWell 55 = .ok (.lmul, 1) := by decide +kernel
theorem dX9_withWell_56 : decode cX9_withWell 56 = .ok (.aload_n 0, 1) := by decide +kernel
theorem dX9_withWell_57 : decode cX9_withWell 57 = .ok (.iload_n 3, 1) := by decide +kernel
theorem dX9_withWell_58 : decode cX9_withWell 58 = .ok (.invokevirtual 344, 3) := by decide +kernel
theorem dX9_withWell_61 : decode cX9_withWell 61 = .ok (.i2l, 1) := by decide +kernel
theorem dX9_withWell_62 : decode cX9_withWell 62 = .ok (.ladd, 1) := by decide +kernel
theorem dX9_withWell_63 : decode cX9_withWell 63 = .ok (.lstore 4, 2) := by decide +kernel
theorem dX9_withWell_65 : decode cX9_withWell 65 = .ok (.iconst 0, 1) := by decide +kernel
theorem dX9_withWell_66 : decode cX9_withWell 66 = .ok (.istore 6, 2) := by decide +kernel
theorem dX9_withWell_68 : decode cX9_withWell 68 = .ok (.iload 6, 2) := by decide +kernel
theorem dX9_withWell_70 : decode cX9_withWell 70 = .ok (.iconst 3, 1) := by decide +kernel
theorem dX9_withWell_71 : decode cX9_withWell 71 = .ok (.if_icmp .ge 26, 3) := by decide +kernel
theorem dX9_withWell_74 : decode cX9_withWell 74 = .ok (.ldc2_w 314, 3) := by decide +kernel
theorem dX9_withWell_77 : decode cX9_withWell 77 = .ok (.lload 4, 2) := by decide +kernel
theorem dX9_withWell_79 : decode cX9_withWell 79 = .ok (.lmul, 1) := by decide +kernel
theorem dX9_withWell_80 : decode cX9_withWell 80 = .ok (.aload_n 0, 1) := by decide +kernel
theorem dX9_withWell_81 : decode cX9_withWell 81 = .ok (.iload_n 3, 1) := by decide +kernel
theorem dX9_withWell_82 : decode cX9_withWell 82 = .ok (.iload 6, 2) := by decide +kernel
theorem dX9_withWell_84 : decode cX9_withWell 84 = .ok (.invokevirtual 347, 3) := by decide +kernel
theorem dX9_withWell_87 : decode cX9_withWell 87 = .ok (.i2l, 1) := by decide +kernel
theorem dX9_withWell_88 : decode cX9_withWell 88 = .ok (.ladd, 1) := by decide +kernel
theorem dX9_withWell_89 : decode cX9_withWell 89 = .ok (.lstore 4, 2) := by decide +kernel
theorem dX9_withWell_91 : decode cX9_withWell 91 = .ok (.iinc 6 1, 3) := by decide +kernel
theorem dX9_withWell_94 : decode cX9_withWell 94 = .ok (.goto (-26), 3) := by decide +kernel
theorem dX9_withWell_97 : decode cX9_withWell 97 = .ok (.ldc2_w 314, 3) := by decide +kernel
theorem dX9_withWell_100 : decode cX9_withWell 100 = .ok (.lload 4, 2) := by decide +kernel
theorem dX9_withWell_102 : decode cX9_withWell 102 = .ok (.lmul, 1) := by decide +kernel
theorem dX9_withWell_103 : decode cX9_withWell 103 = .ok (.aload_n 0, 1) := by decide +kernel
theorem dX9_withWell_104 : decode cX9_withWell 104 = .ok (.iload_n 3, 1) := by decide +kernel
theorem dX9_withWell_105 : decode cX9_withWell 105 = .ok (.iconst (-1), 1) := by decide +kernel
theorem dX9_withWell_106 : decode cX9_withWell 106 = .ok (.invokevirtual 350, 3) := by decide +kernel
theorem dX9_withWell_109 : decode cX9_withWell 109 = .ok (.i2l, 1) := by decide +kernel
theorem dX9_withWell_110 : decode cX9_withWell 110 = .ok (.ladd, 1) := by decide +kernel
theorem dX9_withWell_111 : decode cX9_withWell 111 = .ok (.lstore 4, 2) := by decide +kernel
theorem dX9_withWell_113 : decode cX9_withWell 113 = .ok (.ldc2_w 314, 3) := by decide +kernel
theorem dX9_withWell_116 : decode cX9_withWell 116 = .ok (.lload 4, 2) := by decide +kernel
theorem dX9_withWell_118 : decode cX9_withWell 118 = .ok (.lmul, 1) := by decide +kernel
theorem dX9_withWell_119 : decode cX9_withWell 119 = .ok (.aload_n 0, 1) := by decide +kernel
theorem dX9_withWell_120 : decode cX9_withWell 120 = .ok (.iload_n 3, 1) := by decide +kernel
theorem dX9_withWell_121 : decode cX9_withWell 121 = .ok (.iconst 0, 1) := by decide +kernel
theorem dX9_withWell_122 : decode cX9_withWell 122 = .ok (.invokevirtual 350, 3) := by decide +kernel
theorem dX9_withWell_125 : decode cX9_withWell 125 = .ok (.i2l, 1) := by decide +kernel
theorem dX9_withWell_126 : decode cX9_withWell 126 = .ok (.ladd, 1) := by decide +kernel
theorem dX9_withWell_127 : decode cX9_withWell 127 = .ok (.lstore 4, 2) := by decide +kernel
theorem dX9_withWell_129 : decode cX9_withWell 129 = .ok (.ldc2_w 314, 3) := by decide +kernel
theorem dX9_withWell_132 : decode cX9_withWell 132 = .ok (.lload 4, 2) := by decide +kernel
theorem dX9_withWell_134 : decode cX9_withWell 134 = .ok (.lmul, 1) := by decide +kernel
theorem dX9_withWell_135 : decode cX9_withWell 135 = .ok (.aload_n 0, 1) := by decide +kernel
theorem dX9_withWell_136 : decode cX9_withWell 136 = .ok (.iload_n 3, 1) := by decide +kernel
theorem dX9_withWell_137 : decode cX9_withWell 137 = .ok (.iconst 0, 1) := by decide +kernel
theorem dX9_withWell_138 : decode cX9_withWell 138 = .ok (.invokevirtual 353, 3) := by decide +kernel
theorem dX9_withWell_141 : decode cX9_withWell 141 = .ok (.i2l, 1) := by decide +kernel
theorem dX9_withWell_142 : decode cX9_withWell 142 = .ok (.ladd, 1) := by decide +kernel
theorem dX9_withWell_143 : decode cX9_withWell 143 = .ok (.lstore 4, 2) := by decide +kernel
theorem dX9_withWell_145 : decode cX9_withWell 145 = .ok (.ldc2_w 314, 3) := by decide +kernel
theorem dX9_withWell_148 : decode cX9_withWell 148 = .ok (.lload 4, 2) := by decide +kernel
theorem dX9_withWell_150 : decode cX9_withWell 150 = .ok (.lmul, 1) := by decide +kernel
theorem dX9_withWell_151 : decode cX9_withWell 151 = .ok (.aload_n 0, 1) := by decide +kernel
theorem dX9_withWell_152 : decode cX9_withWell 152 = .ok (.iload_n 3, 1) := by decide +kernel
theorem dX9_withWell_153 : decode cX9_withWell 153 = .ok (.iconst 1, 1) := by decide +kernel
theorem dX9_withWell_154 : decode cX9_withWell 154 = .ok (.invokevirtual 353, 3) := by decide +kernel
theorem dX9_withWell_157 : decode cX9_withWell 157 = .ok (.i2l, 1) := by decide +kernel
theorem dX9_withWell_158 : decode cX9_withWell 158 = .ok (.ladd, 1) := by decide +kernel
theorem dX9_withWell_159 : decode cX9_withWell 159 = .ok (.lstore 4, 2) := by decide +kernel
theorem dX9_withWell_161 : decode cX9_withWell 161 = .ok (.ldc2_w 314, 3) := by decide +kernel
theorem dX9_withWell_164 : decode cX9_withWell 164 = .ok (.lload 4, 2) := by decide +kernel
theorem dX9_withWell_166 : decode cX9_withWell 166 = .ok (.lmul, 1) := by decide +kernel
theorem dX9_withWell_167 : decode cX9_withWell 167 = .ok (.aload_n 0, 1) := by decide +kernel
theorem dX9_withWell_168 : decode cX9_withWell 168 = .ok (.iload_n 3, 1) := by decide +kernel
theorem dX9_withWell_169 : decode cX9_withWell 169 = .ok (.invokevirtual 355, 3) := by decide +kernel
theorem dX9_withWell_172 : decode cX9_withWell 172 = .ok (.i2l, 1) := by decide +kernel
theorem dX9_withWell_173 : decode cX9_withWell 173 = .ok (.ladd, 1) := by decide +kernel
theorem dX9_withWell_174 : decode cX9_withWell 174 = .ok (.lstore 4, 2) := by decide +kernel
theorem dX9_withWell_176 : decode cX9_withWell 176 = .ok (.lload 4, 2) := by decide +kernel
theorem dX9_withWell_178 : decode cX9_withWell 178 = .ok (.lreturn, 1) := by decide +kernel
noncomputable def F9_withWell_b97 (v1 : Int64) (v3 : Int32) (a4 : Int64) (M : Mem) : Option (Int64 × Mem) :=
  ((F9_open v3 (-1 : Int32) M).bind (fun q10 => ((F9_open v3 (0 : Int32) q10.2).bind (fun q11 => ((F9_stone v3 (0 : Int32) q11.2).bind (fun q12 => ((F9_stone v3 (1 : Int32) q12.2).bind (fun q13 => ((F9_ask v3 q13.2).bind (fun q14 => (some ((((31 : Int64) * (((31 : Int64) * (((31 : Int64) * (((31 : Int64) * (((31 : Int64) * a4) + q10.1.toInt64)) + q11.1.toInt64)) + q12.1.toInt64)) + q13.1.toInt64)) + q14.1.toInt64), q14.2))))))))))))
noncomputable def F9_withWell_p68 (kh : Int64 → Int32 → Mem → Option (Int64 × Mem)) (kx97 : Int64 → Mem → Option (Int64 × Mem)) (v1 : Int64) (v3 : Int32) (a4 : Int64) (a6 : Int32) (M : Mem) : Option (Int64 × Mem) :=
  (if (3 : Int32) ≤ a6 then kx97 a4 M else ((F9_toss v3 a6 M).bind (fun q15 => (kh (((31 : Int64) * a4) + q15.1.toInt64) (a6 + (1 : Int32)) q15.2))))
noncomputable def F9_withWell_h68 (kx97 : Int64 → Mem → Option (Int64 × Mem)) (v1 : Int64) (v3 : Int32) : Nat → Int64 → Int32 → Mem → Option (Int64 × Mem)
  | 0, _, _, _ => none
  | n + 1, a4, a6, M => F9_withWell_p68 (F9_withWell_h68 kx97 v1 v3 n) kx97 v1 v3 a4 a6 M
noncomputable def F9_withWell_b35 (v1 : Int64) (v3 : Int32) (a4 : Int64) (M : Mem) : Option (Int64 × Mem) :=
  ((F9_hears v3 M).bind (fun q16 => ((F9_soon v3 q16.2).bind (fun q17 => ((F9_withWell_h68 (F9_withWell_b97 v1 v3) v1 v3 FU) (((31 : Int64) * (((31 : Int64) * a4) + q16.1.toInt64)) + q17.1.toInt64) (0 : Int32) q17.2)))))
noncomputable def F9_withWell_p6 (kh : Int64 → Int32 → Mem → Option (Int64 × Mem)) (kx35 : Int64 → Mem → Option (Int64 × Mem)) (v1 : Int64) (v3 : Int32) (a4 : Int64) (a6 : Int32) (M : Mem) : Option (Int64 × Mem) :=
  (if (4 : Int32) ≤ a6 then kx35 a4 M else ((F9_well v3 a6 M).bind (fun q18 => (kh (((31 : Int64) * a4) + q18.toInt64) (a6 + (1 : Int32)) M))))
noncomputable def F9_withWell_h6 (kx35 : Int64 → Mem → Option (Int64 × Mem)) (v1 : Int64) (v3 : Int32) : Nat → Int64 → Int32 → Mem → Option (Int64 × Mem)
  | 0, _, _, _ => none
  | n + 1, a4, a6, M => F9_withWell_p6 (F9_withWell_h6 kx35 v1 v3 n) kx35 v1 v3 a4 a6 M
noncomputable def F9_withWell (v1 : Int64) (v3 : Int32) (mc : Mem) : Option (Int64 × Mem) :=
  (F9_withWell_h6 (F9_withWell_b35 v1 v3) v1 v3 FU) v1 (0 : Int32) mc
set_option maxHeartbeats 4000000 in
set_option maxRecDepth 100000 in
theorem kX9_withWell (l : Launch) (g : GG) (v1 : Int64) (v3 : Int32) (mc mm : Mem) (q : Int64 × Mem) (hF : F9_withWell v1 v3 mc = some q) : KL l yX9_withWell cX9_withWell 7 5 131 g [.ref (g.1 0), .long v1, .int v3] mc mm q.1 (q.2, mm) := by
  intro sz
  refine x_start (Qc := fun z => QL g z q.1 (q.2, mm)) (by decide +kernel) (Nat.le_of_ble_eq_true rfl) ?_ sz
  intro p e s m args below meth c ls Z hr hlk hP hl
  have hx := Z.1.1
  have hb := Z.1.2.1
  have hown := Z.1.2.2.2.1
  have hts := Z.1.2.2.2.2
  have hS : va_S (AA g s.heap.size) s.heap s.heap [] := va_S.rf
  have hl : lv_has ls 7 [(0, .ref (g.1 0)), (1, .long v1), (3, .int v3)] := hl
  unfold F9_withWell at hF
  have hb97 : ∀ (a4 : Int64) (M : Mem), F9_withWell_b97 v1 v3 a4 M = some q → ∀ (H : Heap) (locs : List Loc) (ls : Array Slot), lv_has ls 7 [(0, .ref (g.1 0)), (3, .int v3), (4, .long a4)] → va_P g.2.2.1 vwCl (wL g M mm) H → va_S (AA g s.heap.size) s.heap H locs → W p l e { frames := 5, cells := 0, slots := 0, locals := 131 } s m args below meth c H locs 0 0 (MQ below (QL g s.heap.size q.1 (q.2, mm)) args s 0 0 (AA g s.heap.size)) (F0 m 97 ls []) := by
    intro a4 M hF H locs ls hl hP hS
    unfold F9_withWell_b97 at hF
    refine lv_ldc2 (v := (31 : Int64)) hx hb hown (hts _ wd_43_15) dX9_withWell_97 ?_
    refine lv_lload hx hb dX9_withWell_100 (lv_at hl 2 rfl) ?_
    refine lv_lmul hx hb dX9_withWell_102 ?_
    refine lv_aload_n hx hb dX9_withWell_103 rfl (lv_at hl 0 rfl) ?_
    refine lv_iload_n hx hb dX9_withWell_104 rfl (lv_at hl 1 rfl) ?_
    refine lv_iconst (v := (-1 : Int32)) hx hb dX9_withWell_105 ic_m1 ?_
    obtain ⟨q10, hq10, hF⟩ := bd_ok hF
    refine xX9_open Z hP hS hq10 wd_44_2 hl.1 (Nat.le_of_ble_eq_true rfl) ⟨Nat.le_of_ble_eq_true rfl, Nat.le_of_ble_eq_true rfl⟩ dX9_withWell_106 (fun H locs hP hS => ?_)
    refine lv_i2l (v := q10.1.toInt64) hx hb dX9_withWell_109 rfl ?_
    refine lv_ladd hx hb dX9_withWell_110 ?_
    refine lv_lstore (lv' := [(4, .long (((31 : Int64) * a4) + q10.1.toInt64)), (0, .ref (g.1 0)), (3, .int v3)]) hx hb dX9_withWell_111 hl (Nat.le_of_ble_eq_true rfl) rfl (fun ls hl => ?_)
    refine lv_ldc2 (v := (31 : Int64)) hx hb hown (hts _ wd_43_15) dX9_withWell_113 ?_
    refine lv_lload hx hb dX9_withWell_116 (lv_at hl 0 rfl) ?_
    refine lv_lmul hx hb dX9_withWell_118 ?_
    refine lv_aload_n hx hb dX9_withWell_119 rfl (lv_at hl 1 rfl) ?_
    refine lv_iload_n hx hb dX9_withWell_120 rfl (lv_at hl 2 rfl) ?_
    refine lv_iconst (v := (0 : Int32)) hx hb dX9_withWell_121 ic_0 ?_
    obtain ⟨q11, hq11, hF⟩ := bd_ok hF
    refine xX9_open Z hP hS hq11 wd_44_2 hl.1 (Nat.le_of_ble_eq_true rfl) ⟨Nat.le_of_ble_eq_true rfl, Nat.le_of_ble_eq_true rfl⟩ dX9_withWell_122 (fun H locs hP hS => ?_)
    refine lv_i2l (v := q11.1.toInt64) hx hb dX9_withWell_125 rfl ?_
    refine lv_ladd hx hb dX9_withWell_126 ?_
    refine lv_lstore (lv' := [(4, .long (((31 : Int64) * (((31 : Int64) * a4) + q10.1.toInt64)) + q11.1.toInt64)), (0, .ref (g.1 0)), (3, .int v3)]) hx hb dX9_withWell_127 hl (Nat.le_of_ble_eq_true rfl) rfl (fun ls hl => ?_)
    refine lv_ldc2 (v := (31 : Int64)) hx hb hown (hts _ wd_43_15) dX9_withWell_129 ?_
    refine lv_lload hx hb dX9_withWell_132 (lv_at hl 0 rfl) ?_
    refine lv_lmul hx hb dX9_withWell_134 ?_
    refine lv_aload_n hx hb dX9_withWell_135 rfl (lv_at hl 1 rfl) ?_
    refine lv_iload_n hx hb dX9_withWell_136 rfl (lv_at hl 2 rfl) ?_
    refine lv_iconst (v := (0 : Int32)) hx hb dX9_withWell_137 ic_0 ?_
    obtain ⟨q12, hq12, hF⟩ := bd_ok hF
    refine xX9_stone Z hP hS hq12 wd_44_3 hl.1 (Nat.le_of_ble_eq_true rfl) ⟨Nat.le_of_ble_eq_true rfl, Nat.le_of_ble_eq_true rfl⟩ dX9_withWell_138 (fun H locs hP hS => ?_)
    refine lv_i2l (v := q12.1.toInt64) hx hb dX9_withWell_141 rfl ?_
    refine lv_ladd hx hb dX9_withWell_142 ?_
    refine lv_lstore (lv' := [(4, .long (((31 : Int64) * (((31 : Int64) * (((31 : Int64) * a4) + q10.1.toInt64)) + q11.1.toInt64)) + q12.1.toInt64)), (0, .ref (g.1 0)), (3, .int v3)]) hx hb dX9_withWell_143 hl (Nat.le_of_ble_eq_true rfl) rfl (fun ls hl => ?_)
    refine lv_ldc2 (v := (31 : Int64)) hx hb hown (hts _ wd_43_15) dX9_withWell_145 ?_
    refine lv_lload hx hb dX9_withWell_148 (lv_at hl 0 rfl) ?_
    refine lv_lmul hx hb dX9_withWell_150 ?_
    refine lv_aload_n hx hb dX9_withWell_151 rfl (lv_at hl 1 rfl) ?_
    refine lv_iload_n hx hb dX9_withWell_152 rfl (lv_at hl 2 rfl) ?_
    refine lv_iconst (v := (1 : Int32)) hx hb dX9_withWell_153 ic_1 ?_
    obtain ⟨q13, hq13, hF⟩ := bd_ok hF
    refine xX9_stone Z hP hS hq13 wd_44_3 hl.1 (Nat.le_of_ble_eq_true rfl) ⟨Nat.le_of_ble_eq_true rfl, Nat.le_of_ble_eq_true rfl⟩ dX9_withWell_154 (fun H locs hP hS => ?_)
    refine lv_i2l (v := q13.1.toInt64) hx hb dX9_withWell_157 rfl ?_
    refine lv_ladd hx hb dX9_withWell_158 ?_
    refine lv_lstore (lv' := [(4, .long (((31 : Int64) * (((31 : Int64) * (((31 : Int64) * (((31 : Int64) * a4) + q10.1.toInt64)) + q11.1.toInt64)) + q12.1.toInt64)) + q13.1.toInt64)), (0, .ref (g.1 0)), (3, .int v3)]) hx hb dX9_withWell_159 hl (Nat.le_of_ble_eq_true rfl) rfl (fun ls hl => ?_)
    refine lv_ldc2 (v := (31 : Int64)) hx hb hown (hts _ wd_43_15) dX9_withWell_161 ?_
    refine lv_lload hx hb dX9_withWell_164 (lv_at hl 0 rfl) ?_
    refine lv_lmul hx hb dX9_withWell_166 ?_
    refine lv_aload_n hx hb dX9_withWell_167 rfl (lv_at hl 1 rfl) ?_
    refine lv_iload_n hx hb dX9_withWell_168 rfl (lv_at hl 2 rfl) ?_
    obtain ⟨q14, hq14, hF⟩ := bd_ok hF
    refine xX9_ask Z hP hS hq14 wd_44_4 hl.1 (Nat.le_of_ble_eq_true rfl) ⟨Nat.le_of_ble_eq_true rfl, Nat.le_of_ble_eq_true rfl⟩ dX9_withWell_169 (fun H locs hP hS => ?_)
    refine lv_i2l (v := q14.1.toInt64) hx hb dX9_withWell_172 rfl ?_
    refine lv_ladd hx hb dX9_withWell_173 ?_
    refine lv_lstore (lv' := [(4, .long (((31 : Int64) * (((31 : Int64) * (((31 : Int64) * (((31 : Int64) * (((31 : Int64) * a4) + q10.1.toInt64)) + q11.1.toInt64)) + q12.1.toInt64)) + q13.1.toInt64)) + q14.1.toInt64)), (0, .ref (g.1 0)), (3, .int v3)]) hx hb dX9_withWell_174 hl (Nat.le_of_ble_eq_true rfl) rfl (fun ls hl => ?_)
    refine lv_lload hx hb dX9_withWell_176 (lv_at hl 0 rfl) ?_
    exact ret_JWC Z hr hlk hP hS hF dX9_withWell_178
  have hL68 : ∀ (kx97 : Int64 → Mem → Option (Int64 × Mem)), (∀ (a4 : Int64) (M : Mem), kx97 a4 M = some q → ∀ (H : Heap) (locs : List Loc) (ls : Array Slot), lv_has ls 7 [(0, .ref (g.1 0)), (3, .int v3), (4, .long a4)] → va_P g.2.2.1 vwCl (wL g M mm) H → va_S (AA g s.heap.size) s.heap H locs → W p l e { frames := 5, cells := 0, slots := 0, locals := 131 } s m args below meth c H locs 0 0 (MQ below (QL g s.heap.size q.1 (q.2, mm)) args s 0 0 (AA g s.heap.size)) (F0 m 97 ls [])) → ∀ n : Nat, ∀ (a4 : Int64) (a6 : Int32) (M : Mem), F9_withWell_h68 kx97 v1 v3 n a4 a6 M = some q → ∀ (H : Heap) (locs : List Loc) (ls : Array Slot), lv_has ls 7 [(0, .ref (g.1 0)), (3, .int v3), (4, .long a4), (6, .int a6)] → va_P g.2.2.1 vwCl (wL g M mm) H → va_S (AA g s.heap.size) s.heap H locs → W p l e { frames := 5, cells := 0, slots := 0, locals := 131 } s m args below meth c H locs 0 0 (MQ below (QL g s.heap.size q.1 (q.2, mm)) args s 0 0 (AA g s.heap.size)) (F0 m 68 ls []) := by
    intro kx97 hx97 n
    induction n with
    | zero => intro a4 a6 M hF H locs ls hl hP hS; exact absurd hF (fun z => nomatch (show (none : Option _) = some q from z))
    | succ n ih =>
      generalize hkh : F9_withWell_h68 kx97 v1 v3 n = kh at ih
      intro a4 a6 M hF H locs ls hl hP hS
      have hF : F9_withWell_p68 (F9_withWell_h68 kx97 v1 v3 n) kx97 v1 v3 a4 a6 M = some q := hF
      rw [hkh] at hF
      unfold F9_withWell_p68 at hF
      refine lv_iload hx hb dX9_withWell_68 (lv_at hl 3 rfl) ?_
      refine lv_iconst (v := (3 : Int32)) hx hb dX9_withWell_70 ic_3 ?_
      refine lv_icmp_ge (tgt := 97) hx hb dX9_withWell_71 rfl (fun hc => ?_) (fun hc => ?_)
      · have hF := (if_pos hc).symm.trans hF
        exact hx97 _ _ hF _ _ _ (lv_sub hl [0, 1, 2] rfl) hP hS
      · have hF := (if_neg hc).symm.trans hF
        refine lv_ldc2 (v := (31 : Int64)) hx hb hown (hts _ wd_43_15) dX9_withWell_74 ?_
        refine lv_lload hx hb dX9_withWell_77 (lv_at hl 2 rfl) ?_
        refine lv_lmul hx hb dX9_withWell_79 ?_
        refine lv_aload_n hx hb dX9_withWell_80 rfl (lv_at hl 0 rfl) ?_
        refine lv_iload_n hx hb dX9_withWell_81 rfl (lv_at hl 1 rfl) ?_
        refine lv_iload hx hb dX9_withWell_82 (lv_at hl 3 rfl) ?_
        obtain ⟨q15, hq15, hF⟩ := bd_ok hF
        refine xX9_toss Z hP hS hq15 wd_44_1 hl.1 (Nat.le_of_ble_eq_true rfl) ⟨Nat.le_of_ble_eq_true rfl, Nat.le_of_ble_eq_true rfl⟩ dX9_withWell_84 (fun H locs hP hS => ?_)
        refine lv_i2l (v := q15.1.toInt64) hx hb dX9_withWell_87 rfl ?_
        refine lv_ladd hx hb dX9_withWell_88 ?_
        refine lv_lstore (lv' := [(4, .long (((31 : Int64) * a4) + q15.1.toInt64)), (0, .ref (g.1 0)), (3, .int v3), (6, .int a6)]) hx hb dX9_withWell_89 hl (Nat.le_of_ble_eq_true rfl) rfl (fun ls hl => ?_)
        refine lv_iinc (lv' := [(6, .int (a6 + (1 : Int32))), (4, .long (((31 : Int64) * a4) + q15.1.toInt64)), (0, .ref (g.1 0)), (3, .int v3)]) (v := (a6 + (1 : Int32))) hx hb dX9_withWell_91 hl (k := 3) rfl (io_1 _) (Nat.le_of_ble_eq_true rfl) rfl (fun ls hl => ?_)
        refine lv_goto (tgt := 68) hx hb dX9_withWell_94 rfl ?_
        exact ih _ _ _ hF _ _ _ (lv_sub hl [2, 3, 1, 0] rfl) hP hS
  have hb35 : ∀ (a4 : Int64) (M : Mem), F9_withWell_b35 v1 v3 a4 M = some q → ∀ (H : Heap) (locs : List Loc) (ls : Array Slot), lv_has ls 7 [(0, .ref (g.1 0)), (3, .int v3), (4, .long a4)] → va_P g.2.2.1 vwCl (wL g M mm) H → va_S (AA g s.heap.size) s.heap H locs → W p l e { frames := 5, cells := 0, slots := 0, locals := 131 } s m args below meth c H locs 0 0 (MQ below (QL g s.heap.size q.1 (q.2, mm)) args s 0 0 (AA g s.heap.size)) (F0 m 35 ls []) := by
    intro a4 M hF H locs ls hl hP hS
    unfold F9_withWell_b35 at hF
    refine lv_ldc2 (v := (31 : Int64)) hx hb hown (hts _ wd_43_15) dX9_withWell_35 ?_
    refine lv_lload hx hb dX9_withWell_38 (lv_at hl 2 rfl) ?_
    refine lv_lmul hx hb dX9_withWell_40 ?_
    refine lv_aload_n hx hb dX9_withWell_41 rfl (lv_at hl 0 rfl) ?_
    refine lv_iload_n hx hb dX9_withWell_42 rfl (lv_at hl 1 rfl) ?_
    obtain ⟨q16, hq16, hF⟩ := bd_ok hF
    refine xX9_hears Z hP hS hq16 wd_43_23 hl.1 (Nat.le_of_ble_eq_true rfl) ⟨Nat.le_of_ble_eq_true rfl, Nat.le_of_ble_eq_true rfl⟩ dX9_withWell_43 (fun H locs hP hS => ?_)
    refine lv_i2l (v := q16.1.toInt64) hx hb dX9_withWell_46 rfl ?_
    refine lv_ladd hx hb dX9_withWell_47 ?_
    refine lv_lstore (lv' := [(4, .long (((31 : Int64) * a4) + q16.1.toInt64)), (0, .ref (g.1 0)), (3, .int v3)]) hx hb dX9_withWell_48 hl (Nat.le_of_ble_eq_true rfl) rfl (fun ls hl => ?_)
    refine lv_ldc2 (v := (31 : Int64)) hx hb hown (hts _ wd_43_15) dX9_withWell_50 ?_
    refine lv_lload hx hb dX9_withWell_53 (lv_at hl 0 rfl) ?_
    refine lv_lmul hx hb dX9_withWell_55 ?_
    refine lv_aload_n hx hb dX9_withWell_56 rfl (lv_at hl 1 rfl) ?_
    refine lv_iload_n hx hb dX9_withWell_57 rfl (lv_at hl 2 rfl) ?_
    obtain ⟨q17, hq17, hF⟩ := bd_ok hF
    refine xX9_soon Z hP hS hq17 wd_44_0 hl.1 (Nat.le_of_ble_eq_true rfl) ⟨Nat.le_of_ble_eq_true rfl, Nat.le_of_ble_eq_true rfl⟩ dX9_withWell_58 (fun H locs hP hS => ?_)
    refine lv_i2l (v := q17.1.toInt64) hx hb dX9_withWell_61 rfl ?_
    refine lv_ladd hx hb dX9_withWell_62 ?_
    refine lv_lstore (lv' := [(4, .long (((31 : Int64) * (((31 : Int64) * a4) + q16.1.toInt64)) + q17.1.toInt64)), (0, .ref (g.1 0)), (3, .int v3)]) hx hb dX9_withWell_63 hl (Nat.le_of_ble_eq_true rfl) rfl (fun ls hl => ?_)
    refine lv_iconst (v := (0 : Int32)) hx hb dX9_withWell_65 ic_0 ?_
    refine lv_istore (lv' := [(6, .int (0 : Int32)), (4, .long (((31 : Int64) * (((31 : Int64) * a4) + q16.1.toInt64)) + q17.1.toInt64)), (0, .ref (g.1 0)), (3, .int v3)]) hx hb dX9_withWell_66 hl (Nat.le_of_ble_eq_true rfl) rfl (fun ls hl => ?_)
    exact (hL68 _ hb97 FU) _ _ _ hF _ _ _ (lv_sub hl [2, 3, 1, 0] rfl) hP hS
  have hL6 : ∀ (kx35 : Int64 → Mem → Option (Int64 × Mem)), (∀ (a4 : Int64) (M : Mem), kx35 a4 M = some q → ∀ (H : Heap) (locs : List Loc) (ls : Array Slot), lv_has ls 7 [(0, .ref (g.1 0)), (3, .int v3), (4, .long a4)] → va_P g.2.2.1 vwCl (wL g M mm) H → va_S (AA g s.heap.size) s.heap H locs → W p l e { frames := 5, cells := 0, slots := 0, locals := 131 } s m args below meth c H locs 0 0 (MQ below (QL g s.heap.size q.1 (q.2, mm)) args s 0 0 (AA g s.heap.size)) (F0 m 35 ls [])) → ∀ n : Nat, ∀ (a4 : Int64) (a6 : Int32) (M : Mem), F9_withWell_h6 kx35 v1 v3 n a4 a6 M = some q → ∀ (H : Heap) (locs : List Loc) (ls : Array Slot), lv_has ls 7 [(0, .ref (g.1 0)), (3, .int v3), (4, .long a4), (6, .int a6)] → va_P g.2.2.1 vwCl (wL g M mm) H → va_S (AA g s.heap.size) s.heap H locs → W p l e { frames := 5, cells := 0, slots := 0, locals := 131 } s m args below meth c H locs 0 0 (MQ below (QL g s.heap.size q.1 (q.2, mm)) args s 0 0 (AA g s.heap.size)) (F0 m 6 ls []) := by
    intro kx35 hx35 n
    induction n with
    | zero => intro a4 a6 M hF H locs ls hl hP hS; exact absurd hF (fun z => nomatch (show (none : Option _) = some q from z))
    | succ n ih =>
      generalize hkh : F9_withWell_h6 kx35 v1 v3 n = kh at ih
      intro a4 a6 M hF H locs ls hl hP hS
      have hF : F9_withWell_p6 (F9_withWell_h6 kx35 v1 v3 n) kx35 v1 v3 a4 a6 M = some q := hF
      rw [hkh] at hF
      unfold F9_withWell_p6 at hF
      refine lv_iload hx hb dX9_withWell_6 (lv_at hl 3 rfl) ?_
      refine lv_iconst (v := (4 : Int32)) hx hb dX9_withWell_8 ic_4 ?_
      refine lv_icmp_ge (tgt := 35) hx hb dX9_withWell_9 rfl (fun hc => ?_) (fun hc => ?_)
      · have hF := (if_pos hc).symm.trans hF
        exact hx35 _ _ hF _ _ _ (lv_sub hl [0, 1, 2] rfl) hP hS
      · have hF := (if_neg hc).symm.trans hF
        refine lv_ldc2 (v := (31 : Int64)) hx hb hown (hts _ wd_43_15) dX9_withWell_12 ?_
        refine lv_lload hx hb dX9_withWell_15 (lv_at hl 2 rfl) ?_
        refine lv_lmul hx hb dX9_withWell_17 ?_
        refine lv_aload_n hx hb dX9_withWell_18 rfl (lv_at hl 0 rfl) ?_
        refine lv_iload_n hx hb dX9_withWell_19 rfl (lv_at hl 1 rfl) ?_
        refine lv_iload hx hb dX9_withWell_20 (lv_at hl 3 rfl) ?_
        obtain ⟨q18, hq18, hF⟩ := bd_ok hF
        refine xX9_well Z hP hS hq18 wd_43_22 hl.1 (Nat.le_of_ble_eq_true rfl) ⟨Nat.le_of_ble_eq_true rfl, Nat.le_of_ble_eq_true rfl⟩ dX9_withWell_22 (fun H locs hP hS => ?_)
        refine lv_i2l (v := q18.toInt64) hx hb dX9_withWell_25 rfl ?_
        refine lv_ladd hx hb dX9_withWell_26 ?_
        refine lv_lstore (lv' := [(4, .long (((31 : Int64) * a4) + q18.toInt64)), (0, .ref (g.1 0)), (3, .int v3), (6, .int a6)]) hx hb dX9_withWell_27 hl (Nat.le_of_ble_eq_true rfl) rfl (fun ls hl => ?_)
        refine lv_iinc (lv' := [(6, .int (a6 + (1 : Int32))), (4, .long (((31 : Int64) * a4) + q18.toInt64)), (0, .ref (g.1 0)), (3, .int v3)]) (v := (a6 + (1 : Int32))) hx hb dX9_withWell_29 hl (k := 3) rfl (io_1 _) (Nat.le_of_ble_eq_true rfl) rfl (fun ls hl => ?_)
        refine lv_goto (tgt := 6) hx hb dX9_withWell_32 rfl ?_
        exact ih _ _ _ hF _ _ _ (lv_sub hl [2, 3, 1, 0] rfl) hP hS
  refine lv_lload_n hx hb dX9_withWell_0 rfl (lv_at hl 1 rfl) ?_
  refine lv_lstore (lv' := [(4, .long v1), (0, .ref (g.1 0)), (1, .long v1), (3, .int v3)]) hx hb dX9_withWell_1 hl (Nat.le_of_ble_eq_true rfl) rfl (fun ls hl => ?_)
  refine lv_iconst (v := (0 : Int32)) hx hb dX9_withWell_3 ic_0 ?_
  refine lv_istore (lv' := [(6, .int (0 : Int32)), (4, .long v1), (0, .ref (g.1 0)), (1, .long v1), (3, .int v3)]) hx hb dX9_withWell_4 hl (Nat.le_of_ble_eq_true rfl) rfl (fun ls hl => ?_)
  exact (hL6 _ hb35 FU) _ _ _ hF _ _ _ (lv_sub hl [2, 4, 1, 0] rfl) hP hS
theorem xX9_withWell {p : Program} {l : Launch} {e : Env} {R : Room} {s : State} {m : MethodId} {args : Array Value} {below : List Frame} {meth : Method} {c : Code} {H : Heap} {locs : List Loc} {Q : State → Prop} {cc : ByteArray} {nL : Nat} {own : String} {g : GG} {pc index : Nat} {ls : Array Slot} {rest : List Value} {mc mm : Mem} (Z : ZZ p s m args c cc nL own g) (hP : va_P g.2.2.1 vwCl (wL g mc mm) H) (hS : va_S (AA g s.heap.size) s.heap H locs) {v1 : Int64} {v3 : Int32} {q : Int64 × Mem} (hq : F9_withWell v1 v3 mc = some q) (hlk : Cond.methodLink own index yX9_withWell ∈ wsL_law) (hsz : ls.size = nL) (hro : (rest.map fun v => v.category).sum ≤ 8) (hR : 5 + 1 ≤ R.frames ∧ 8 + (7 + 11) + 131 ≤ R.locals) (hdg : decode cc pc = .ok (.invokevirtual index, 3)) (kk : ∀ (H : Heap) (locs : List Loc), va_P g.2.2.1 vwCl (wL g q.2 mm) H → va_S (AA g s.heap.size) s.heap H locs → W p l e R s m args below meth c H locs 0 0 Q (F0 m (pc + 3) ls (.long q.1 :: rest))) : W p l e R s m args below meth c H locs 0 0 Q (F0 m pc ls (.int v3 :: .long v1 :: .ref (g.1 0) :: rest)) :=
  x_VL Z hP hS (kX9_withWell l g v1 v3 mc mm q hq) (isO_w ck_0) (ci := 9) (by decide) rfl rfl mf_X9_withWell mv_X9_withWell hlk rfl rfl hsz hro hR hdg kk
theorem dX9_withHour_0 : decode cX9_withHour 0 = .ok (.lload_n 1, 1) := by decide +kernel
theorem dX9_withHour_1 : decode cX9_withHour 1 = .ok (.lstore 5, 2) := by decide +kernel
theorem dX9_withHour_3 : decode cX9_withHour 3 = .ok (.iconst 0, 1) := by decide +kernel
theorem dX9_withHour_4 : decode cX9_withHour 4 = .ok (.istore 7, 2) := by decide +kernel
theorem dX9_withHour_6 : decode cX9_withHour 6 = .ok (.iload 7, 2) := by decide +kernel
theorem dX9_withHour_8 : decode cX9_withHour 8 = .ok (.iconst 5, 1) := by decide +kernel
theorem dX9_withHour_9 : decode cX9_withHour 9 = .ok (.if_icmp .ge 28, 3) := by decide +kernel
theorem dX9_withHour_12 : decode cX9_withHour 12 = .ok (.ldc2_w 314, 3) := by decide +kernel
theorem dX9_withHour_15 : decode cX9_withHour 15 = .ok (.lload 5, 2) := by decide +kernel
theorem dX9_withHour_17 : decode cX9_withHour 17 = .ok (.lmul, 1) := by decide +kernel
theorem dX9_withHour_18 : decode cX9_withHour 18 = .ok (.aload_n 0, 1) := by decide +kernel
theorem dX9_withHour_19 : decode cX9_withHour 19 = .ok (.iload 4, 2) := by decide +kernel
theorem dX9_withHour_21 : decode cX9_withHour 21 = .ok (.iload_n 3, 1) := by decide +kernel
theorem dX9_withHour_22 : decode cX9_withHour 22 = .ok (.iload 7, 2) := by decide +kernel
theorem dX9_withHour_24 : decode cX9_withHour 24 = .ok (.invokevirtual 374, 3) := by decide +kernel
theorem dX9_withHour_27 : decode cX9_withHour 27 = .ok (.i2l, 1) := by decide +kernel
theorem dX9_withHour_28 : decode cX9_withHour 28 = .ok (.ladd, 1) := by decide +kernel
theorem dX9_withHour_29 : decode cX9_withHour 29 = .ok (.lstore 5, 2) := by decide +kernel
theorem dX9_withHour_31 : decode cX9_withHour 31 = .ok (.iinc 7 1, 3) := by decide +kernel
theorem dX9_withHour_34 : decode cX9_withHour 34 = .ok (.goto (-28), 3) := by decide +kernel
theorem dX9_withHour_37 : decode cX9_withHour 37 = .ok (.lload 5, 2) := by decide +kernel
theorem dX9_withHour_39 : decode cX9_withHour 39 = .ok (.lreturn, 1) := by decide +kernel
noncomputable def F9_withHour_p6 (kh : Int64 → Int32 → Mem → Option (Int64 × Mem)) (v1 : Int64) (v3 : Int32) (v4 : Int32) (a5 : Int64) (a7 : Int32) (M : Mem) : Option (Int64 × Mem) :=
  (if (5 : Int32) ≤ a7 then some (a5, M) else ((F9_at v4 v3 a7 M).bind (fun q2 => (kh (((31 : Int64) * a5) + q2.1.toInt64) (a7 + (1 : Int32)) q2.2))))
noncomputable def F9_withHour_h6 (v1 : Int64) (v3 : Int32) (v4 : Int32) : Nat → Int64 → Int32 → Mem → Option (Int64 × Mem)
  | 0, _, _, _ => none
  | n + 1, a5, a7, M => F9_withHour_p6 (F9_withHour_h6 v1 v3 v4 n) v1 v3 v4 a5 a7 M
noncomputable def F9_withHour (v1 : Int64) (v3 : Int32) (v4 : Int32) (mc : Mem) : Option (Int64 × Mem) :=
  (F9_withHour_h6 v1 v3 v4 FU) v1 (0 : Int32) mc
set_option maxHeartbeats 4000000 in
set_option maxRecDepth 100000 in
theorem kX9_withHour (l : Launch) (g : GG) (v1 : Int64) (v3 : Int32) (v4 : Int32) (mc mm : Mem) (q : Int64 × Mem) (hF : F9_withHour v1 v3 v4 mc = some q) : KL l yX9_withHour cX9_withHour 8 4 102 g [.ref (g.1 0), .long v1, .int v3, .int v4] mc mm q.1 (q.2, mm) := by
  intro sz
  refine x_start (Qc := fun z => QL g z q.1 (q.2, mm)) (by decide +kernel) (Nat.le_of_ble_eq_true rfl) ?_ sz
  intro p e s m args below meth c ls Z hr hlk hP hl
  have hx := Z.1.1
  have hb := Z.1.2.1
  have hown := Z.1.2.2.2.1
  have hts := Z.1.2.2.2.2
  have hS : va_S (AA g s.heap.size) s.heap s.heap [] := va_S.rf
  have hl : lv_has ls 8 [(0, .ref (g.1 0)), (1, .long v1), (3, .int v3), (4, .int v4)] := hl
  unfold F9_withHour at hF
  have hL6 : ∀ n : Nat, ∀ (a5 : Int64) (a7 : Int32) (M : Mem), F9_withHour_h6 v1 v3 v4 n a5 a7 M = some q → ∀ (H : Heap) (locs : List Loc) (ls : Array Slot), lv_has ls 8 [(0, .ref (g.1 0)), (3, .int v3), (4, .int v4), (5, .long a5), (7, .int a7)] → va_P g.2.2.1 vwCl (wL g M mm) H → va_S (AA g s.heap.size) s.heap H locs → W p l e { frames := 4, cells := 0, slots := 0, locals := 102 } s m args below meth c H locs 0 0 (MQ below (QL g s.heap.size q.1 (q.2, mm)) args s 0 0 (AA g s.heap.size)) (F0 m 6 ls []) := by
    intro n
    induction n with
    | zero => intro a5 a7 M hF H locs ls hl hP hS; exact absurd hF (fun z => nomatch (show (none : Option _) = some q from z))
    | succ n ih =>
      generalize hkh : F9_withHour_h6 v1 v3 v4 n = kh at ih
      intro a5 a7 M hF H locs ls hl hP hS
      have hF : F9_withHour_p6 (F9_withHour_h6 v1 v3 v4 n) v1 v3 v4 a5 a7 M = some q := hF
      rw [hkh] at hF
      unfold F9_withHour_p6 at hF
      refine lv_iload hx hb dX9_withHour_6 (lv_at hl 4 rfl) ?_
      refine lv_iconst (v := (5 : Int32)) hx hb dX9_withHour_8 ic_5 ?_
      refine lv_icmp_ge (tgt := 37) hx hb dX9_withHour_9 rfl (fun hc => ?_) (fun hc => ?_)
      · have hF := (if_pos hc).symm.trans hF
        refine lv_lload hx hb dX9_withHour_37 (lv_at hl 3 rfl) ?_
        exact ret_JWC Z hr hlk hP hS hF dX9_withHour_39
      · have hF := (if_neg hc).symm.trans hF
        refine lv_ldc2 (v := (31 : Int64)) hx hb hown (hts _ wd_43_15) dX9_withHour_12 ?_
        refine lv_lload hx hb dX9_withHour_15 (lv_at hl 3 rfl) ?_
        refine lv_lmul hx hb dX9_withHour_17 ?_
        refine lv_aload_n hx hb dX9_withHour_18 rfl (lv_at hl 0 rfl) ?_
        refine lv_iload hx hb dX9_withHour_19 (lv_at hl 2 rfl) ?_
        refine lv_iload_n hx hb dX9_withHour_21 rfl (lv_at hl 1 rfl) ?_
        refine lv_iload hx hb dX9_withHour_22 (lv_at hl 4 rfl) ?_
        obtain ⟨q2, hq2, hF⟩ := bd_ok hF
        refine xX9_at Z hP hS hq2 wd_44_14 hl.1 (Nat.le_of_ble_eq_true rfl) ⟨Nat.le_of_ble_eq_true rfl, Nat.le_of_ble_eq_true rfl⟩ dX9_withHour_24 (fun H locs hP hS => ?_)
        refine lv_i2l (v := q2.1.toInt64) hx hb dX9_withHour_27 rfl ?_
        refine lv_ladd hx hb dX9_withHour_28 ?_
        refine lv_lstore (lv' := [(5, .long (((31 : Int64) * a5) + q2.1.toInt64)), (0, .ref (g.1 0)), (3, .int v3), (4, .int v4), (7, .int a7)]) hx hb dX9_withHour_29 hl (Nat.le_of_ble_eq_true rfl) rfl (fun ls hl => ?_)
        refine lv_iinc (lv' := [(7, .int (a7 + (1 : Int32))), (5, .long (((31 : Int64) * a5) + q2.1.toInt64)), (0, .ref (g.1 0)), (3, .int v3), (4, .int v4)]) (v := (a7 + (1 : Int32))) hx hb dX9_withHour_31 hl (k := 4) rfl (io_1 _) (Nat.le_of_ble_eq_true rfl) rfl (fun ls hl => ?_)
        refine lv_goto (tgt := 6) hx hb dX9_withHour_34 rfl ?_
        exact ih _ _ _ hF _ _ _ (lv_sub hl [2, 3, 4, 1, 0] rfl) hP hS
  refine lv_lload_n hx hb dX9_withHour_0 rfl (lv_at hl 1 rfl) ?_
  refine lv_lstore (lv' := [(5, .long v1), (0, .ref (g.1 0)), (1, .long v1), (3, .int v3), (4, .int v4)]) hx hb dX9_withHour_1 hl (Nat.le_of_ble_eq_true rfl) rfl (fun ls hl => ?_)
  refine lv_iconst (v := (0 : Int32)) hx hb dX9_withHour_3 ic_0 ?_
  refine lv_istore (lv' := [(7, .int (0 : Int32)), (5, .long v1), (0, .ref (g.1 0)), (1, .long v1), (3, .int v3), (4, .int v4)]) hx hb dX9_withHour_4 hl (Nat.le_of_ble_eq_true rfl) rfl (fun ls hl => ?_)
  exact (hL6 FU) _ _ _ hF _ _ _ (lv_sub hl [2, 4, 5, 1, 0] rfl) hP hS
theorem xX9_withHour {p : Program} {l : Launch} {e : Env} {R : Room} {s : State} {m : MethodId} {args : Array Value} {below : List Frame} {meth : Method} {c : Code} {H : Heap} {locs : List Loc} {Q : State → Prop} {cc : ByteArray} {nL : Nat} {own : String} {g : GG} {pc index : Nat} {ls : Array Slot} {rest : List Value} {mc mm : Mem} (Z : ZZ p s m args c cc nL own g) (hP : va_P g.2.2.1 vwCl (wL g mc mm) H) (hS : va_S (AA g s.heap.size) s.heap H locs) {v1 : Int64} {v3 : Int32} {v4 : Int32} {q : Int64 × Mem} (hq : F9_withHour v1 v3 v4 mc = some q) (hlk : Cond.methodLink own index yX9_withHour ∈ wsL_law) (hsz : ls.size = nL) (hro : (rest.map fun v => v.category).sum ≤ 8) (hR : 4 + 1 ≤ R.frames ∧ 8 + (8 + 11) + 102 ≤ R.locals) (hdg : decode cc pc = .ok (.invokevirtual index, 3)) (kk : ∀ (H : Heap) (locs : List Loc), va_P g.2.2.1 vwCl (wL g q.2 mm) H → va_S (AA g s.heap.size) s.heap H locs → W p l e R s m args below meth c H locs 0 0 Q (F0 m (pc + 3) ls (.long q.1 :: rest))) : W p l e R s m args below meth c H locs 0 0 Q (F0 m pc ls (.int v4 :: .int v3 :: .long v1 :: .ref (g.1 0) :: rest)) :=
  x_VL Z hP hS (kX9_withHour l g v1 v3 v4 mc mm q hq) (isO_w ck_0) (ci := 9) (by decide) rfl rfl mf_X9_withHour mv_X9_withHour hlk rfl rfl hsz hro hR hdg kk
theorem dX9_withSaying_0 : decode cX9_withSaying 0 = .ok (.lload_n 1, 1) := by decide +kernel
theorem dX9_withSaying_1 : decode cX9_withSaying 1 = .ok (.lstore 4, 2) := by decide +kernel
theorem dX9_withSaying_3 : decode cX9_withSaying 3 = .ok (.iconst 0, 1) := by decide +kernel
theorem dX9_withSaying_4 : decode cX9_withSaying 4 = .ok (.istore 6, 2) := by decide +kernel
theorem dX9_withSaying_6 : decode cX9_withSaying 6 = .ok (.iload 6, 2) := by decide +kernel
theorem dX9_withSaying_8 : decode cX9_withSaying 8 = .ok (.bipush 8, 2) := by decide +kernel
theorem dX9_withSaying_10 : decode cX9_withSaying 10 = .ok (.if_icmp .ge 26, 3) := by decide +kernel
theorem dX9_withSaying_13 : decode cX9_withSaying 13 = .ok (.ldc2_w 314, 3) := by decide +kernel
theorem dX9_withSaying_16 : decode cX9_withSaying 16 = .ok (.lload 4, 2) := by decide +kernel
theorem dX9_withSaying_18 : decode cX9_withSaying 18 = .ok (.lmul, 1) := by decide +kernel
theorem dX9_withSaying_19 : decode cX9_withSaying 19 = .ok (.aload_n 0, 1) := by decide +kernel
theorem dX9_withSaying_20 : decode cX9_withSaying 20 = .ok (.iload_n 3, 1) := by decide +kernel
theorem dX9_withSaying_21 : decode cX9_withSaying 21 = .ok (.iload 6, 2) := by decide +kernel
theorem dX9_withSaying_23 : decode cX9_withSaying 23 = .ok (.invokevirtual 358, 3) := by decide +kernel
theorem dX9_withSaying_26 : decode cX9_withSaying 26 = .ok (.i2l, 1) := by decide +kernel
theorem dX9_withSaying_27 : decode cX9_withSaying 27 = .ok (.ladd, 1) := by decide +kernel
theorem dX9_withSaying_28 : decode cX9_withSaying 28 = .ok (.lstore 4, 2) := by decide +kernel
theorem dX9_withSaying_30 : decode cX9_withSaying 30 = .ok (.iinc 6 1, 3) := by decide +kernel
theorem dX9_withSaying_33 : decode cX9_withSaying 33 = .ok (.goto (-27), 3) := by decide +kernel
theorem dX9_withSaying_36 : decode cX9_withSaying 36 = .ok (.aload_n 0, 1) := by decide +kernel
theorem dX9_withSaying_37 : decode cX9_withSaying 37 = .ok (.lload 4, 2) := by decide +kernel
theorem dX9_withSaying_39 : decode cX9_withSaying 39 = .ok (.iload_n 3, 1) := by decide +kernel
theorem dX9_withSaying_40 : decode cX9_withSaying 40 = .ok (.iconst 0, 1) := by decide +kernel
theorem dX9_withSaying_41 : decode cX9_withSaying 41 = .ok (.invokevirtual 361, 3) := by decide +kernel
theorem dX9_withSaying_44 : decode cX9_withSaying 44 = .ok (.lstore 4, 2) := by decide +kernel
theorem dX9_withSaying_46 : decode cX9_withSaying 46 = .ok (.aload_n 0, 1) := by decide +kernel
theorem dX9_withSaying_47 : decode cX9_withSaying 47 = .ok (.lload 4, 2) := by decide +kernel
theorem dX9_withSaying_49 : decode cX9_withSaying 49 = .ok (.iload_n 3, 1) := by decide +kernel
theorem dX9_withSaying_50 : decode cX9_withSaying 50 = .ok (.bipush 8, 2) := by decide +kernel
theorem dX9_withSaying_52 : decode cX9_withSaying 52 = .ok (.invokevirtual 361, 3) := by decide +kernel
theorem dX9_withSaying_55 : decode cX9_withSaying 55 = .ok (.lstore 4, 2) := by decide +kernel
theorem dX9_withSaying_57 : decode cX9_withSaying 57 = .ok (.aload_n 0, 1) := by decide +kernel
theorem dX9_withSaying_58 : decode cX9_withSaying 58 = .ok (.lload 4, 2) := by decide +kernel
theorem dX9_withSaying_60 : decode cX9_withSaying 60 = .ok (.iload_n 3, 1) := by decide +kernel
theorem dX9_withSaying_61 : decode cX9_withSaying 61 = .ok (.bipush 20, 2) := by decide +kernel
theorem dX9_withSaying_63 : decode cX9_withSaying 63 = .ok (.invokevirtual 361, 3) := by decide +kernel
theorem dX9_withSaying_66 : decode cX9_withSaying 66 = .ok (.lstore 4, 2) := by decide +kernel
theorem dX9_withSaying_68 : decode cX9_withSaying 68 = .ok (.aload_n 0, 1) := by decide +kernel
theorem dX9_withSaying_69 : decode cX9_withSaying 69 = .ok (.lload 4, 2) := by decide +kernel
theorem dX9_withSaying_71 : decode cX9_withSaying 71 = .ok (.iload_n 3, 1) := by decide +kernel
theorem dX9_withSaying_72 : decode cX9_withSaying 72 = .ok (.bipush 39, 2) := by decide +kernel
theorem dX9_withSaying_74 : decode cX9_withSaying 74 = .ok (.invokevirtual 361, 3) := by decide +kernel
theorem dX9_withSaying_77 : decode cX9_withSaying 77 = .ok (.lstore 4, 2) := by decide +kernel
theorem dX9_withSaying_79 : decode cX9_withSaying 79 = .ok (.ldc2_w 314, 3) := by decide +kernel
theorem dX9_withSaying_82 : decode cX9_withSaying 82 = .ok (.lload 4, 2) := by decide +kernel
theorem dX9_withSaying_84 : decode cX9_withSaying 84 = .ok (.lmul, 1) := by decide +kernel
theorem dX9_withSaying_85 : decode cX9_withSaying 85 = .ok (.aload_n 0, 1) := by decide +kernel
theorem dX9_withSaying_86 : decode cX9_withSaying 86 = .ok (.iload_n 3, 1) := by decide +kernel
theorem dX9_withSaying_87 : decode cX9_withSaying 87 = .ok (.iconst 0, 1) := by decide +kernel
theorem dX9_withSaying_88 : decode cX9_withSaying 88 = .ok (.iconst 0, 1) := by decide +kernel
theorem dX9_withSaying_89 : decode cX9_withSaying 89 = .ok (.invokevirtual 365, 3) := by decide +kernel
theorem dX9_withSaying_92 : decode cX9_withSaying 92 = .ok (.i2l, 1) := by decide +kernel
theorem dX9_withSaying_93 : decode cX9_withSaying 93 = .ok (.ladd, 1) := by decide +kernel
theorem dX9_withSaying_94 : decode cX9_withSaying 94 = .ok (.lstore 4, 2) := by decide +kernel
theorem dX9_withSaying_96 : decode cX9_withSaying 96 = .ok (.ldc2_w 314, 3) := by decide +kernel
theorem dX9_withSaying_99 : decode cX9_withSaying 99 = .ok (.lload 4, 2) := by decide +kernel
theorem dX9_withSaying_101 : decode cX9_withSaying 101 = .ok (.lmul, 1) := by decide +kernel
theorem dX9_withSaying_102 : decode cX9_withSaying 102 = .ok (.aload_n 0, 1) := by decide +kernel
theorem dX9_withSaying_103 : decode cX9_withSaying 103 = .ok (.iload_n 3, 1) := by decide +kernel
theorem dX9_withSaying_104 : decode cX9_withSaying 104 = .ok (.iconst 0, 1) := by decide +kernel
theorem dX9_withSaying_105 : decode cX9_withSaying 105 = .ok (.iconst 1, 1) := by decide +kernel
theorem dX9_withSaying_106 : decode cX9_withSaying 106 = .ok (.invokevirtual 365, 3) := by decide +kernel
theorem dX9_withSaying_109 : decode cX9_withSaying 109 = .ok (.i2l, 1) := by decide +kernel
theorem dX9_withSaying_110 : decode cX9_withSaying 110 = .ok (.ladd, 1) := by decide +kernel
theorem dX9_withSaying_111 : decode cX9_withSaying 111 = .ok (.lstore 4, 2) := by decide +kernel
theorem dX9_withSaying_113 : decode cX9_withSaying 113 = .ok (.ldc2_w 314, 3) := by decide +kernel
theorem dX9_withSaying_116 : decode cX9_withSaying 116 = .ok (.lload 4, 2) := by decide +kernel
theorem dX9_withSaying_118 : decode cX9_withSaying 118 = .ok (.lmul, 1) := by decide +kernel
theorem dX9_withSaying_119 : decode cX9_withSaying 119 = .ok (.aload_n 0, 1) := by decide +kernel
theorem dX9_withSaying_120 : decode cX9_withSaying 120 = .ok (.iload_n 3, 1) := by decide +kernel
theorem dX9_withSaying_121 : decode cX9_withSaying 121 = .ok (.invokevirtual 368, 3) := by decide +kernel
theorem dX9_withSaying_124 : decode cX9_withSaying 124 = .ok (.i2l, 1) := by decide +kernel
theorem dX9_withSaying_125 : decode cX9_withSaying 125 = .ok (.ladd, 1) := by decide +kernel
theorem dX9_withSaying_126 : decode cX9_withSaying 126 = .ok (.lstore 4, 2) := by decide +kernel
theorem dX9_withSaying_128 : decode cX9_withSaying 128 = .ok (.ldc2_w 314, 3) := by decide +kernel
theorem dX9_withSaying_131 : decode cX9_withSaying 131 = .ok (.lload 4, 2) := by decide +kernel
theorem dX9_withSaying_133 : decode cX9_withSaying 133 = .ok (.lmul, 1) := by decide +kernel
theorem dX9_withSaying_134 : decode cX9_withSaying 134 = .ok (.aload_n 0, 1) := by decide +kernel
theorem dX9_withSaying_135 : decode cX9_withSaying 135 = .ok (.iconst 5, 1) := by decide +kernel
theorem dX9_withSaying_136 : decode cX9_withSaying 136 = .ok (.iload_n 3, 1) := by decide +kernel
theorem dX9_withSaying_137 : decode cX9_withSaying 137 = .ok (.iconst 0, 1) := by decide +kernel
theorem dX9_withSaying_138 : decode cX9_withSaying 138 = .ok (.iconst 0, 1) := by decide +kernel
theorem dX9_withSaying_139 : decode cX9_withSaying 139 = .ok (.invokevirtual 370, 3) := by decide +kernel
theorem dX9_withSaying_142 : decode cX9_withSaying 142 = .ok (.ladd, 1) := by decide +kernel
theorem dX9_withSaying_143 : decode cX9_withSaying 143 = .ok (.lstore 4, 2) := by decide +kernel
theorem dX9_withSaying_145 : decode cX9_withSaying 145 = .ok (.ldc2_w 314, 3) := by decide +kernel
theorem dX9_withSaying_148 : decode cX9_withSaying 148 = .ok (.lload 4, 2) := by decide +kernel
theorem dX9_withSaying_150 : decode cX9_withSaying 150 = .ok (.lmul, 1) := by decide +kernel
theorem dX9_withSaying_151 : decode cX9_withSaying 151 = .ok (.aload_n 0, 1) := by decide +kernel
theorem dX9_withSaying_152 : decode cX9_withSaying 152 = .ok (.iconst 5, 1) := by decide +kernel
theorem dX9_withSaying_153 : decode cX9_withSaying 153 = .ok (.iload_n 3, 1) := by decide +kernel
theorem dX9_withSaying_154 : decode cX9_withSaying 154 = .ok (.iconst 0, 1) := by decide +kernel
theorem dX9_withSaying_155 : decode cX9_withSaying 155 = .ok (.iconst 1, 1) := by decide +kernel
theorem dX9_withSaying_156 : decode cX9_withSaying 156 = .ok (.invokevirtual 370, 3) := by decide +kernel
theorem dX9_withSaying_159 : decode cX9_withSaying 159 = .ok (.ladd, 1) := by decide +kernel
theorem dX9_withSaying_160 : decode cX9_withSaying 160 = .ok (.lstore 4, 2) := by decide +kernel
theorem dX9_withSaying_162 : decode cX9_withSaying 162 = .ok (.lload 4, 2) := by decide +kernel
theorem dX9_withSaying_164 : decode cX9_withSaying 164 = .ok (.lreturn, 1) := by decide +kernel
noncomputable def F9_withSaying_b36 (v1 : Int64) (v3 : Int32) (a4 : Int64) (M : Mem) : Option (Int64 × Mem) :=
  ((F9_withHour a4 v3 (0 : Int32) M).bind (fun q11 => ((F9_withHour q11.1 v3 (8 : Int32) q11.2).bind (fun q12 => ((F9_withHour q12.1 v3 (20 : Int32) q12.2).bind (fun q13 => ((F9_withHour q13.1 v3 (39 : Int32) q13.2).bind (fun q14 => ((F9_tell v3 (0 : Int32) (0 : Int32) q14.2).bind (fun q15 => ((F9_tell v3 (0 : Int32) (1 : Int32) q15.2).bind (fun q16 => ((F9_bucket v3 q16.2).bind (fun q17 => ((F9_chance (5 : Int32) v3 (0 : Int32) (0 : Int32) q17.2).bind (fun q18 => ((F9_chance (5 : Int32) v3 (0 : Int32) (1 : Int32) q18.2).bind (fun q19 => (some ((((31 : Int64) * (((31 : Int64) * (((31 : Int64) * (((31 : Int64) * (((31 : Int64) * q14.1) + q15.1.toInt64)) + q16.1.toInt64)) + q17.1.toInt64)) + q18.1)) + q19.1), q19.2))))))))))))))))))))
noncomputable def F9_withSaying_p6 (kh : Int64 → Int32 → Mem → Option (Int64 × Mem)) (kx36 : Int64 → Mem → Option (Int64 × Mem)) (v1 : Int64) (v3 : Int32) (a4 : Int64) (a6 : Int32) (M : Mem) : Option (Int64 × Mem) :=
  (if (8 : Int32) ≤ a6 then kx36 a4 M else ((F9_saying v3 a6 M).bind (fun q20 => (kh (((31 : Int64) * a4) + q20.toInt64) (a6 + (1 : Int32)) M))))
noncomputable def F9_withSaying_h6 (kx36 : Int64 → Mem → Option (Int64 × Mem)) (v1 : Int64) (v3 : Int32) : Nat → Int64 → Int32 → Mem → Option (Int64 × Mem)
  | 0, _, _, _ => none
  | n + 1, a4, a6, M => F9_withSaying_p6 (F9_withSaying_h6 kx36 v1 v3 n) kx36 v1 v3 a4 a6 M
noncomputable def F9_withSaying (v1 : Int64) (v3 : Int32) (mc : Mem) : Option (Int64 × Mem) :=
  (F9_withSaying_h6 (F9_withSaying_b36 v1 v3) v1 v3 FU) v1 (0 : Int32) mc
set_option maxHeartbeats 4000000 in
set_option maxRecDepth 100000 in
theorem kX9_withSaying (l : Launch) (g : GG) (v1 : Int64) (v3 : Int32) (mc mm : Mem) (q : Int64 × Mem) (hF : F9_withSaying v1 v3 mc = some q) : KL l yX9_withSaying cX9_withSaying 7 5 129 g [.ref (g.1 0), .long v1, .int v3] mc mm q.1 (q.2, mm) := by
  intro sz
  refine x_start (Qc := fun z => QL g z q.1 (q.2, mm)) (by decide +kernel) (Nat.le_of_ble_eq_true rfl) ?_ sz
  intro p e s m args below meth c ls Z hr hlk hP hl
  have hx := Z.1.1
  have hb := Z.1.2.1
  have hown := Z.1.2.2.2.1
  have hts := Z.1.2.2.2.2
  have hS : va_S (AA g s.heap.size) s.heap s.heap [] := va_S.rf
  have hl : lv_has ls 7 [(0, .ref (g.1 0)), (1, .long v1), (3, .int v3)] := hl
  unfold F9_withSaying at hF
  have hb36 : ∀ (a4 : Int64) (M : Mem), F9_withSaying_b36 v1 v3 a4 M = some q → ∀ (H : Heap) (locs : List Loc) (ls : Array Slot), lv_has ls 7 [(0, .ref (g.1 0)), (3, .int v3), (4, .long a4)] → va_P g.2.2.1 vwCl (wL g M mm) H → va_S (AA g s.heap.size) s.heap H locs → W p l e { frames := 5, cells := 0, slots := 0, locals := 129 } s m args below meth c H locs 0 0 (MQ below (QL g s.heap.size q.1 (q.2, mm)) args s 0 0 (AA g s.heap.size)) (F0 m 36 ls []) := by
    intro a4 M hF H locs ls hl hP hS
    unfold F9_withSaying_b36 at hF
    refine lv_aload_n hx hb dX9_withSaying_36 rfl (lv_at hl 0 rfl) ?_
    refine lv_lload hx hb dX9_withSaying_37 (lv_at hl 2 rfl) ?_
    refine lv_iload_n hx hb dX9_withSaying_39 rfl (lv_at hl 1 rfl) ?_
    refine lv_iconst (v := (0 : Int32)) hx hb dX9_withSaying_40 ic_0 ?_
    obtain ⟨q11, hq11, hF⟩ := bd_ok hF
    refine xX9_withHour Z hP hS hq11 wd_44_10 hl.1 (Nat.le_of_ble_eq_true rfl) ⟨Nat.le_of_ble_eq_true rfl, Nat.le_of_ble_eq_true rfl⟩ dX9_withSaying_41 (fun H locs hP hS => ?_)
    refine lv_lstore (lv' := [(4, .long q11.1), (0, .ref (g.1 0)), (3, .int v3)]) hx hb dX9_withSaying_44 hl (Nat.le_of_ble_eq_true rfl) rfl (fun ls hl => ?_)
    refine lv_aload_n hx hb dX9_withSaying_46 rfl (lv_at hl 1 rfl) ?_
    refine lv_lload hx hb dX9_withSaying_47 (lv_at hl 0 rfl) ?_
    refine lv_iload_n hx hb dX9_withSaying_49 rfl (lv_at hl 2 rfl) ?_
    refine lv_bipush (v := (8 : Int32)) hx hb dX9_withSaying_50 bp_8 ?_
    obtain ⟨q12, hq12, hF⟩ := bd_ok hF
    refine xX9_withHour Z hP hS hq12 wd_44_10 hl.1 (Nat.le_of_ble_eq_true rfl) ⟨Nat.le_of_ble_eq_true rfl, Nat.le_of_ble_eq_true rfl⟩ dX9_withSaying_52 (fun H locs hP hS => ?_)
    refine lv_lstore (lv' := [(4, .long q12.1), (0, .ref (g.1 0)), (3, .int v3)]) hx hb dX9_withSaying_55 hl (Nat.le_of_ble_eq_true rfl) rfl (fun ls hl => ?_)
    refine lv_aload_n hx hb dX9_withSaying_57 rfl (lv_at hl 1 rfl) ?_
    refine lv_lload hx hb dX9_withSaying_58 (lv_at hl 0 rfl) ?_
    refine lv_iload_n hx hb dX9_withSaying_60 rfl (lv_at hl 2 rfl) ?_
    refine lv_bipush (v := (20 : Int32)) hx hb dX9_withSaying_61 bp_20 ?_
    obtain ⟨q13, hq13, hF⟩ := bd_ok hF
    refine xX9_withHour Z hP hS hq13 wd_44_10 hl.1 (Nat.le_of_ble_eq_true rfl) ⟨Nat.le_of_ble_eq_true rfl, Nat.le_of_ble_eq_true rfl⟩ dX9_withSaying_63 (fun H locs hP hS => ?_)
    refine lv_lstore (lv' := [(4, .long q13.1), (0, .ref (g.1 0)), (3, .int v3)]) hx hb dX9_withSaying_66 hl (Nat.le_of_ble_eq_true rfl) rfl (fun ls hl => ?_)
    refine lv_aload_n hx hb dX9_withSaying_68 rfl (lv_at hl 1 rfl) ?_
    refine lv_lload hx hb dX9_withSaying_69 (lv_at hl 0 rfl) ?_
    refine lv_iload_n hx hb dX9_withSaying_71 rfl (lv_at hl 2 rfl) ?_
    refine lv_bipush (v := (39 : Int32)) hx hb dX9_withSaying_72 bp_39 ?_
    obtain ⟨q14, hq14, hF⟩ := bd_ok hF
    refine xX9_withHour Z hP hS hq14 wd_44_10 hl.1 (Nat.le_of_ble_eq_true rfl) ⟨Nat.le_of_ble_eq_true rfl, Nat.le_of_ble_eq_true rfl⟩ dX9_withSaying_74 (fun H locs hP hS => ?_)
    refine lv_lstore (lv' := [(4, .long q14.1), (0, .ref (g.1 0)), (3, .int v3)]) hx hb dX9_withSaying_77 hl (Nat.le_of_ble_eq_true rfl) rfl (fun ls hl => ?_)
    refine lv_ldc2 (v := (31 : Int64)) hx hb hown (hts _ wd_43_15) dX9_withSaying_79 ?_
    refine lv_lload hx hb dX9_withSaying_82 (lv_at hl 0 rfl) ?_
    refine lv_lmul hx hb dX9_withSaying_84 ?_
    refine lv_aload_n hx hb dX9_withSaying_85 rfl (lv_at hl 1 rfl) ?_
    refine lv_iload_n hx hb dX9_withSaying_86 rfl (lv_at hl 2 rfl) ?_
    refine lv_iconst (v := (0 : Int32)) hx hb dX9_withSaying_87 ic_0 ?_
    refine lv_iconst (v := (0 : Int32)) hx hb dX9_withSaying_88 ic_0 ?_
    obtain ⟨q15, hq15, hF⟩ := bd_ok hF
    refine xX9_tell Z hP hS hq15 wd_44_15 hl.1 (Nat.le_of_ble_eq_true rfl) ⟨Nat.le_of_ble_eq_true rfl, Nat.le_of_ble_eq_true rfl⟩ dX9_withSaying_89 (fun H locs hP hS => ?_)
    refine lv_i2l (v := q15.1.toInt64) hx hb dX9_withSaying_92 rfl ?_
    refine lv_ladd hx hb dX9_withSaying_93 ?_
    refine lv_lstore (lv' := [(4, .long (((31 : Int64) * q14.1) + q15.1.toInt64)), (0, .ref (g.1 0)), (3, .int v3)]) hx hb dX9_withSaying_94 hl (Nat.le_of_ble_eq_true rfl) rfl (fun ls hl => ?_)
    refine lv_ldc2 (v := (31 : Int64)) hx hb hown (hts _ wd_43_15) dX9_withSaying_96 ?_
    refine lv_lload hx hb dX9_withSaying_99 (lv_at hl 0 rfl) ?_
    refine lv_lmul hx hb dX9_withSaying_101 ?_
    refine lv_aload_n hx hb dX9_withSaying_102 rfl (lv_at hl 1 rfl) ?_
    refine lv_iload_n hx hb dX9_withSaying_103 rfl (lv_at hl 2 rfl) ?_
    refine lv_iconst (v := (0 : Int32)) hx hb dX9_withSaying_104 ic_0 ?_
    refine lv_iconst (v := (1 : Int32)) hx hb dX9_withSaying_105 ic_1 ?_
    obtain ⟨q16, hq16, hF⟩ := bd_ok hF
    refine xX9_tell Z hP hS hq16 wd_44_15 hl.1 (Nat.le_of_ble_eq_true rfl) ⟨Nat.le_of_ble_eq_true rfl, Nat.le_of_ble_eq_true rfl⟩ dX9_withSaying_106 (fun H locs hP hS => ?_)
    refine lv_i2l (v := q16.1.toInt64) hx hb dX9_withSaying_109 rfl ?_
    refine lv_ladd hx hb dX9_withSaying_110 ?_
    refine lv_lstore (lv' := [(4, .long (((31 : Int64) * (((31 : Int64) * q14.1) + q15.1.toInt64)) + q16.1.toInt64)), (0, .ref (g.1 0)), (3, .int v3)]) hx hb dX9_withSaying_111 hl (Nat.le_of_ble_eq_true rfl) rfl (fun ls hl => ?_)
    refine lv_ldc2 (v := (31 : Int64)) hx hb hown (hts _ wd_43_15) dX9_withSaying_113 ?_
    refine lv_lload hx hb dX9_withSaying_116 (lv_at hl 0 rfl) ?_
    refine lv_lmul hx hb dX9_withSaying_118 ?_
    refine lv_aload_n hx hb dX9_withSaying_119 rfl (lv_at hl 1 rfl) ?_
    refine lv_iload_n hx hb dX9_withSaying_120 rfl (lv_at hl 2 rfl) ?_
    obtain ⟨q17, hq17, hF⟩ := bd_ok hF
    refine xX9_bucket Z hP hS hq17 wd_44_16 hl.1 (Nat.le_of_ble_eq_true rfl) ⟨Nat.le_of_ble_eq_true rfl, Nat.le_of_ble_eq_true rfl⟩ dX9_withSaying_121 (fun H locs hP hS => ?_)
    refine lv_i2l (v := q17.1.toInt64) hx hb dX9_withSaying_124 rfl ?_
    refine lv_ladd hx hb dX9_withSaying_125 ?_
    refine lv_lstore (lv' := [(4, .long (((31 : Int64) * (((31 : Int64) * (((31 : Int64) * q14.1) + q15.1.toInt64)) + q16.1.toInt64)) + q17.1.toInt64)), (0, .ref (g.1 0)), (3, .int v3)]) hx hb dX9_withSaying_126 hl (Nat.le_of_ble_eq_true rfl) rfl (fun ls hl => ?_)
    refine lv_ldc2 (v := (31 : Int64)) hx hb hown (hts _ wd_43_15) dX9_withSaying_128 ?_
    refine lv_lload hx hb dX9_withSaying_131 (lv_at hl 0 rfl) ?_
    refine lv_lmul hx hb dX9_withSaying_133 ?_
    refine lv_aload_n hx hb dX9_withSaying_134 rfl (lv_at hl 1 rfl) ?_
    refine lv_iconst (v := (5 : Int32)) hx hb dX9_withSaying_135 ic_5 ?_
    refine lv_iload_n hx hb dX9_withSaying_136 rfl (lv_at hl 2 rfl) ?_
    refine lv_iconst (v := (0 : Int32)) hx hb dX9_withSaying_137 ic_0 ?_
    refine lv_iconst (v := (0 : Int32)) hx hb dX9_withSaying_138 ic_0 ?_
    obtain ⟨q18, hq18, hF⟩ := bd_ok hF
    refine xX9_chance Z hP hS hq18 wd_44_17 hl.1 (Nat.le_of_ble_eq_true rfl) ⟨Nat.le_of_ble_eq_true rfl, Nat.le_of_ble_eq_true rfl⟩ dX9_withSaying_139 (fun H locs hP hS => ?_)
    refine lv_ladd hx hb dX9_withSaying_142 ?_
    refine lv_lstore (lv' := [(4, .long (((31 : Int64) * (((31 : Int64) * (((31 : Int64) * (((31 : Int64) * q14.1) + q15.1.toInt64)) + q16.1.toInt64)) + q17.1.toInt64)) + q18.1)), (0, .ref (g.1 0)), (3, .int v3)]) hx hb dX9_withSaying_143 hl (Nat.le_of_ble_eq_true rfl) rfl (fun ls hl => ?_)
    refine lv_ldc2 (v := (31 : Int64)) hx hb hown (hts _ wd_43_15) dX9_withSaying_145 ?_
    refine lv_lload hx hb dX9_withSaying_148 (lv_at hl 0 rfl) ?_
    refine lv_lmul hx hb dX9_withSaying_150 ?_
    refine lv_aload_n hx hb dX9_withSaying_151 rfl (lv_at hl 1 rfl) ?_
    refine lv_iconst (v := (5 : Int32)) hx hb dX9_withSaying_152 ic_5 ?_
    refine lv_iload_n hx hb dX9_withSaying_153 rfl (lv_at hl 2 rfl) ?_
    refine lv_iconst (v := (0 : Int32)) hx hb dX9_withSaying_154 ic_0 ?_
    refine lv_iconst (v := (1 : Int32)) hx hb dX9_withSaying_155 ic_1 ?_
    obtain ⟨q19, hq19, hF⟩ := bd_ok hF
    refine xX9_chance Z hP hS hq19 wd_44_17 hl.1 (Nat.le_of_ble_eq_true rfl) ⟨Nat.le_of_ble_eq_true rfl, Nat.le_of_ble_eq_true rfl⟩ dX9_withSaying_156 (fun H locs hP hS => ?_)
    refine lv_ladd hx hb dX9_withSaying_159 ?_
    refine lv_lstore (lv' := [(4, .long (((31 : Int64) * (((31 : Int64) * (((31 : Int64) * (((31 : Int64) * (((31 : Int64) * q14.1) + q15.1.toInt64)) + q16.1.toInt64)) + q17.1.toInt64)) + q18.1)) + q19.1)), (0, .ref (g.1 0)), (3, .int v3)]) hx hb dX9_withSaying_160 hl (Nat.le_of_ble_eq_true rfl) rfl (fun ls hl => ?_)
    refine lv_lload hx hb dX9_withSaying_162 (lv_at hl 0 rfl) ?_
    exact ret_JWC Z hr hlk hP hS hF dX9_withSaying_164
  have hL6 : ∀ (kx36 : Int64 → Mem → Option (Int64 × Mem)), (∀ (a4 : Int64) (M : Mem), kx36 a4 M = some q → ∀ (H : Heap) (locs : List Loc) (ls : Array Slot), lv_has ls 7 [(0, .ref (g.1 0)), (3, .int v3), (4, .long a4)] → va_P g.2.2.1 vwCl (wL g M mm) H → va_S (AA g s.heap.size) s.heap H locs → W p l e { frames := 5, cells := 0, slots := 0, locals := 129 } s m args below meth c H locs 0 0 (MQ below (QL g s.heap.size q.1 (q.2, mm)) args s 0 0 (AA g s.heap.size)) (F0 m 36 ls [])) → ∀ n : Nat, ∀ (a4 : Int64) (a6 : Int32) (M : Mem), F9_withSaying_h6 kx36 v1 v3 n a4 a6 M = some q → ∀ (H : Heap) (locs : List Loc) (ls : Array Slot), lv_has ls 7 [(0, .ref (g.1 0)), (3, .int v3), (4, .long a4), (6, .int a6)] → va_P g.2.2.1 vwCl (wL g M mm) H → va_S (AA g s.heap.size) s.heap H locs → W p l e { frames := 5, cells := 0, slots := 0, locals := 129 } s m args below meth c H locs 0 0 (MQ below (QL g s.heap.size q.1 (q.2, mm)) args s 0 0 (AA g s.heap.size)) (F0 m 6 ls []) := by
    intro kx36 hx36 n
    induction n with
    | zero => intro a4 a6 M hF H locs ls hl hP hS; exact absurd hF (fun z => nomatch (show (none : Option _) = some q from z))
    | succ n ih =>
      generalize hkh : F9_withSaying_h6 kx36 v1 v3 n = kh at ih
      intro a4 a6 M hF H locs ls hl hP hS
      have hF : F9_withSaying_p6 (F9_withSaying_h6 kx36 v1 v3 n) kx36 v1 v3 a4 a6 M = some q := hF
      rw [hkh] at hF
      unfold F9_withSaying_p6 at hF
      refine lv_iload hx hb dX9_withSaying_6 (lv_at hl 3 rfl) ?_
      refine lv_bipush (v := (8 : Int32)) hx hb dX9_withSaying_8 bp_8 ?_
      refine lv_icmp_ge (tgt := 36) hx hb dX9_withSaying_10 rfl (fun hc => ?_) (fun hc => ?_)
      · have hF := (if_pos hc).symm.trans hF
        exact hx36 _ _ hF _ _ _ (lv_sub hl [0, 1, 2] rfl) hP hS
      · have hF := (if_neg hc).symm.trans hF
        refine lv_ldc2 (v := (31 : Int64)) hx hb hown (hts _ wd_43_15) dX9_withSaying_13 ?_
        refine lv_lload hx hb dX9_withSaying_16 (lv_at hl 2 rfl) ?_
        refine lv_lmul hx hb dX9_withSaying_18 ?_
        refine lv_aload_n hx hb dX9_withSaying_19 rfl (lv_at hl 0 rfl) ?_
        refine lv_iload_n hx hb dX9_withSaying_20 rfl (lv_at hl 1 rfl) ?_
        refine lv_iload hx hb dX9_withSaying_21 (lv_at hl 3 rfl) ?_
        obtain ⟨q20, hq20, hF⟩ := bd_ok hF
        refine xX9_saying Z hP hS hq20 wd_44_9 hl.1 (Nat.le_of_ble_eq_true rfl) ⟨Nat.le_of_ble_eq_true rfl, Nat.le_of_ble_eq_true rfl⟩ dX9_withSaying_23 (fun H locs hP hS => ?_)
        refine lv_i2l (v := q20.toInt64) hx hb dX9_withSaying_26 rfl ?_
        refine lv_ladd hx hb dX9_withSaying_27 ?_
        refine lv_lstore (lv' := [(4, .long (((31 : Int64) * a4) + q20.toInt64)), (0, .ref (g.1 0)), (3, .int v3), (6, .int a6)]) hx hb dX9_withSaying_28 hl (Nat.le_of_ble_eq_true rfl) rfl (fun ls hl => ?_)
        refine lv_iinc (lv' := [(6, .int (a6 + (1 : Int32))), (4, .long (((31 : Int64) * a4) + q20.toInt64)), (0, .ref (g.1 0)), (3, .int v3)]) (v := (a6 + (1 : Int32))) hx hb dX9_withSaying_30 hl (k := 3) rfl (io_1 _) (Nat.le_of_ble_eq_true rfl) rfl (fun ls hl => ?_)
        refine lv_goto (tgt := 6) hx hb dX9_withSaying_33 rfl ?_
        exact ih _ _ _ hF _ _ _ (lv_sub hl [2, 3, 1, 0] rfl) hP hS
  refine lv_lload_n hx hb dX9_withSaying_0 rfl (lv_at hl 1 rfl) ?_
  refine lv_lstore (lv' := [(4, .long v1), (0, .ref (g.1 0)), (1, .long v1), (3, .int v3)]) hx hb dX9_withSaying_1 hl (Nat.le_of_ble_eq_true rfl) rfl (fun ls hl => ?_)
  refine lv_iconst (v := (0 : Int32)) hx hb dX9_withSaying_3 ic_0 ?_
  refine lv_istore (lv' := [(6, .int (0 : Int32)), (4, .long v1), (0, .ref (g.1 0)), (1, .long v1), (3, .int v3)]) hx hb dX9_withSaying_4 hl (Nat.le_of_ble_eq_true rfl) rfl (fun ls hl => ?_)
  exact (hL6 _ hb36 FU) _ _ _ hF _ _ _ (lv_sub hl [2, 4, 1, 0] rfl) hP hS
theorem xX9_withSaying {p : Program} {l : Launch} {e : Env} {R : Room} {s : State} {m : MethodId} {args : Array Value} {below : List Frame} {meth : Method} {c : Code} {H : Heap} {locs : List Loc} {Q : State → Prop} {cc : ByteArray} {nL : Nat} {own : String} {g : GG} {pc index : Nat} {ls : Array Slot} {rest : List Value} {mc mm : Mem} (Z : ZZ p s m args c cc nL own g) (hP : va_P g.2.2.1 vwCl (wL g mc mm) H) (hS : va_S (AA g s.heap.size) s.heap H locs) {v1 : Int64} {v3 : Int32} {q : Int64 × Mem} (hq : F9_withSaying v1 v3 mc = some q) (hlk : Cond.methodLink own index yX9_withSaying ∈ wsL_law) (hsz : ls.size = nL) (hro : (rest.map fun v => v.category).sum ≤ 8) (hR : 5 + 1 ≤ R.frames ∧ 8 + (7 + 11) + 129 ≤ R.locals) (hdg : decode cc pc = .ok (.invokevirtual index, 3)) (kk : ∀ (H : Heap) (locs : List Loc), va_P g.2.2.1 vwCl (wL g q.2 mm) H → va_S (AA g s.heap.size) s.heap H locs → W p l e R s m args below meth c H locs 0 0 Q (F0 m (pc + 3) ls (.long q.1 :: rest))) : W p l e R s m args below meth c H locs 0 0 Q (F0 m pc ls (.int v3 :: .long v1 :: .ref (g.1 0) :: rest)) :=
  x_VL Z hP hS (kX9_withSaying l g v1 v3 mc mm q hq) (isO_w ck_0) (ci := 9) (by decide) rfl rfl mf_X9_withSaying mv_X9_withSaying hlk rfl rfl hsz hro hR hdg kk

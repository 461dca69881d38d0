theorem dX10_digest_0 : decode cX10_digest 0 = .ok (.ldc2_w 351, 3) := by decide +kernel
theorem dX10_digest_3 : decode cX10_digest 3 = .ok (.lstore_n 1, 1) := by decide +kernel
theorem dX10_digest_4 : decode cX10_digest 4 = .ok (.iconst 0, 1) := by decide +kernel
theorem dX10_digest_5 : decode cX10_digest 5 = .ok (.istore_n 3, 1) := by decide +kernel
theorem dX10_digest_6 : decode cX10_digest 6 = .ok (.iload_n 3, 1) := by decide +kernel
theorem dX10_digest_7 : decode cX10_digest 7 = .ok (.bipush 8, 2) := by decide +kernel
theorem dX10_digest_9 : decode cX10_digest 9 = .ok (.if_icmp .ge 22, 3) := by decide +kernel
theorem dX10_digest_12 : decode cX10_digest 12 = .ok (.ldc2_w 345, 3) := by decide +kernel
theorem dX10_digest_15 : decode cX10_digest 15 = .ok (.lload_n 1, 1) := by decide +kernel
theorem dX10_digest_16 : decode cX10_digest 16 = .ok (.lmul, 1) := by decide +kernel
theorem dX10_digest_17 : decode cX10_digest 17 = .ok (.aload_n 0, 1) := by decide +kernel
theorem dX10_digest_18 : decode cX10_digest 18 = .ok (.iload_n 3, 1) := by decide +kernel
theorem dX10_digest_19 : decode cX10_digest 19 = .ok (.invokevirtual 353, 3) := by decide +kernel
theorem dX10_digest_22 : decode cX10_digest 22 = .ok (.i2l, 1) := by decide +kernel
theorem dX10_digest_23 : decode cX10_digest 23 = .ok (.ladd, 1) := by decide +kernel
theorem dX10_digest_24 : decode cX10_digest 24 = .ok (.lstore_n 1, 1) := by decide +kernel
theorem dX10_digest_25 : decode cX10_digest 25 = .ok (.iinc 3 1, 3) := by decide +kernel
theorem dX10_digest_28 : decode cX10_digest 28 = .ok (.goto (-22), 3) := by decide +kernel
theorem dX10_digest_31 : decode cX10_digest 31 = .ok (.ldc2_w 345, 3) := by decide +kernel
theorem dX10_digest_34 : decode cX10_digest 34 = .ok (.lload_n 1, 1) := by decide +kernel
theorem dX10_digest_35 : decode cX10_digest 35 = .ok (.lmul, 1) := by decide +kernel
theorem dX10_digest_36 : decode cX10_digest 36 = .ok (.aload_n 0, 1) := by decide +kernel
theorem dX10_digest_37 : decode cX10_digest 37 = .ok (.iconst 0, 1) := by decide +kernel
theorem dX10_digest_38 : decode cX10_digest 38 = .ok (.invokevirtual 147, 3) := by decide +kernel
theorem dX10_digest_41 : decode cX10_digest 41 = .ok (.i2l, 1) := by decide +kernel
theorem dX10_digest_42 : decode cX10_digest 42 = .ok (.ladd, 1) := by decide +kernel
theorem dX10_digest_43 : decode cX10_digest 43 = .ok (.lstore_n 1, 1) := by decide +kernel
theorem dX10_digest_44 : decode cX10_digest 44 = .ok (.ldc2_w 345, 3) := by decide +kernel
theorem dX10_digest_47 : decode cX10_digest 47 = .ok (.lload_n 1, 1) := by decide +kernel
theorem dX10_digest_48 : decode cX10_digest 48 = .ok (.lmul, 1) := by decide +kernel
theorem dX10_digest_49 : decode cX10_digest 49 = .ok (.aload_n 0, 1) := by decide +kernel
theorem dX10_digest_50 : decode cX10_digest 50 = .ok (.iconst 1, 1) := by decide +kernel
theorem dX10_digest_51 : decode cX10_digest 51 = .ok (.invokevirtual 147, 3) := by decide +kernel
theorem dX10_digest_54 : decode cX10_digest 54 = .ok (.i2l, 1) := by decide +kernel
theorem dX10_digest_55 : decode cX10_digest 55 = .ok (.ladd, 1) := by decide +kernel
theorem dX10_digest_56 : decode cX10_digest 56 = .ok (.lstore_n 1, 1) := by decide +kernel
theorem dX10_digest_57 : decode cX10_digest 57 = .ok (.iconst 0, 1) := by decide +kernel
theorem dX10_digest_58 : decode cX10_digest 58 = .ok (.istore_n 3, 1) := by decide +kernel
theorem dX10_digest_59 : decode cX10_digest 59 = .ok (.iload_n 3, 1) := by decide +kernel
theorem dX10_digest_60 : decode cX10_digest 60 = .ok (.aload_n 0, 1) := by decide +kernel
theorem dX10_digest_61 : decode cX10_digest 61 = .ok (.getfield 120, 3) := by decide +kernel
theorem dX10_digest_64 : decode cX10_digest 64 = .ok (.if_icmp .ge 16, 3) := by decide +kernel
theorem dX10_digest_67 : decode cX10_digest 67 = .ok (.aload_n 0, 1) := by decide +kernel
theorem dX10_digest_68 : decode cX10_digest 68 = .ok (.lload_n 1, 1) := by decide +kernel
theorem dX10_digest_69 : decode cX10_digest 69 = .ok (.iload_n 3, 1) := by decide +kernel
theorem dX10_digest_70 : decode cX10_digest 70 = .ok (.invokevirtual 356, 3) := by decide +kernel
theorem dX10_digest_73 : decode cX10_digest 73 = .ok (.lstore_n 1, 1) := by decide +kernel
theorem dX10_digest_74 : decode cX10_digest 74 = .ok (.iinc 3 1, 3) := by decide +kernel
theorem dX10_digest_77 : decode cX10_digest 77 = .ok (.goto (-18), 3) := by decide +kernel
theorem dX10_digest_80 : decode cX10_digest 80 = .ok (.iconst 0, 1) := by decide +kernel
theorem dX10_digest_81 : decode cX10_digest 81 = .ok (.istore_n 3, 1) := by decide +kernel
theorem dX10_digest_82 : decode cX10_digest 82 = .ok (.iload_n 3, 1) := by decide +kernel
theorem dX10_digest_83 : decode cX10_digest 83 = .ok (.aload_n 0, 1) := by decide +kernel
theorem dX10_digest_84 : decode cX10_digest 84 = .ok (.getfield 134, 3) := by decide +kernel
theorem dX10_digest_87 : decode cX10_digest 87 = .ok (.if_icmp .ge 16, 3) := by decide +kernel
theorem dX10_digest_90 : decode cX10_digest 90 = .ok (.aload_n 0, 1) := by decide +kernel
theorem dX10_digest_91 : decode cX10_digest 91 = .ok (.lload_n 1, 1) := by decide +kernel
theorem dX10_digest_92 : decode cX10_digest 92 = .ok (.iload_n 3, 1) := by decide +kernel
theorem dX10_digest_93 : decode cX10_digest 93 = .ok (.invokevirtual 360, 3) := by decide +kernel
theorem dX10_digest_96 : decode cX10_digest 96 = .ok (.lstore_n 1, 1) := by decide +kernel
theorem dX10_digest_97 : decode cX10_digest 97 = .ok (.iinc 3 1, 3) := by decide +kernel
theorem dX10_digest_100 : decode cX10_digest 100 = .ok (.goto (-18), 3) := by decide +kernel
theorem dX10_digest_103 : decode cX10_digest 103 = .ok (.aload_n 0, 1) := by decide +kernel
theorem dX10_digest_104 : decode cX10_digest 104 = .ok (.invokevirtual 233, 3) := by decide +kernel
theorem dX10_digest_107 : decode cX10_digest 107 = .ok (.ldc2_w 345, 3) := by decide +kernel
theorem dX10_digest_110 : decode cX10_digest 110 = .ok (.lload_n 1, 1) := by decide +kernel
theorem dX10_digest_111 : decode cX10_digest 111 = .ok (.lmul, 1) := by decide +kernel
theorem dX10_digest_112 : decode cX10_digest 112 = .ok (.aload_n 0, 1) := by decide +kernel
theorem dX10_digest_113 : decode cX10_digest 113 = .ok (.invokevirtual 253, 3) := by decide +kernel
theorem dX10_digest_116 : decode cX10_digest 116 = .ok (.i2l, 1) := by decide +kernel
theorem dX10_digest_117 : decode cX10_digest 117 = .ok (.ladd, 1) := by decide +kernel
theorem dX10_digest_118 : decode cX10_digest 118 = .ok (.lstore_n 1, 1) := by decide +kernel
theorem dX10_digest_119 : decode cX10_digest 119 = .ok (.ldc2_w 345, 3) := by decide +kernel
theorem dX10_digest_122 : decode cX10_digest 122 = .ok (.lload_n 1, 1) := by decide +kernel
theorem dX10_digest_123 : decode cX10_digest 123 = .ok (.lmul, 1) := by decide +kernel
theorem dX10_digest_124 : decode cX10_digest 124 = .ok (.aload_n 0, 1) := by decide +kernel
theorem dX10_digest_125 : decode cX10_digest 125 = .ok (.iconst 0, 1) := by decide +kernel
theorem dX10_digest_126 : decode cX10_digest 126 = .ok (.invokevirtual 256, 3) := by decide +kernel
theorem dX10_digest_129 : decode cX10_digest 129 = .ok (.i2l, 1) := by decide +kernel
theorem dX10_digest_130 : decode cX10_digest 130 = .ok (.ladd, 1) := by decide +kernel
theorem dX10_digest_131 : decode cX10_digest 131 = .ok (.lstore_n 1, 1) := by decide +kernel
theorem dX10_digest_132 : decode cX10_digest 132 = .ok (.ldc2_w 345, 3) := by decide +kernel
theorem dX10_digest_135 : decode cX10_digest 135 = .ok (.lload_n 1, 1) := by decide +kernel
theorem dX10_digest_136 : decode cX10_digest 136 = .ok (.lmul, 1) := by decide +kernel
theorem dX10_digest_137 : decode cX10_digest 137 = .ok (.aload_n 0, 1) := by decide +kernel
theorem dX10_digest_138 : decode cX10_digest 138 = .ok (.iconst 1, 1) := by decide +kernel
theorem dX10_digest_139 : decode cX10_digest 139 = .ok (.invokevirtual 256, 3) := by decide +kernel
theorem dX10_digest_142 : decode cX10_digest 142 = .ok (.i2l, 1) := by decide +kernel
theorem dX10_digest_143 : decode cX10_digest 143 = .ok (.ladd, 1) := by decide +kernel
theorem dX10_digest_144 : decode cX10_digest 144 = .ok (.lstore_n 1, 1) := by decide +kernel
theorem dX10_digest_145 : decode cX10_digest 145 = .ok (.ldc2_w 345, 3) := by decide +kernel
theorem dX10_digest_148 : decode cX10_digest 148 = .ok (.lload_n 1, 1) := by decide +kernel
theorem dX10_digest_149 : decode cX10_digest 149 = .ok (.lmul, 1) := by decide +kernel
theorem dX10_digest_150 : decode cX10_digest 150 = .ok (.aload_n 0, 1) := by decide +kernel
theorem dX10_digest_151 : decode cX10_digest 151 = .ok (.iconst 0, 1) := by decide +kernel
theorem dX10_digest_152 : decode cX10_digest 152 = .ok (.invokevirtual 285, 3) := by decide +kernel
theorem dX10_digest_155 : decode cX10_digest 155 = .ok (.i2l, 1) := by decide +kernel
theorem dX10_digest_156 : decode cX10_digest 156 = .ok (.ladd, 1) := by decide +kernel
theorem dX10_digest_157 : decode cX10_digest 157 = .ok (.lstore_n 1, 1) := by decide +kernel
theorem dX10_digest_158 : decode cX10_digest 158 = .ok (.ldc2_w 345, 3) := by decide +kernel
theorem dX10_digest_161 : decode cX10_digest 161 = .ok (.lload_n 1, 1) := by decide +kernel
theorem dX10_digest_162 : decode cX10_digest 162 = .ok (.lmul, 1) := by decide +kernel
theorem dX10_digest_163 : decode cX10_digest 163 = .ok (.aload_n 0, 1) := by decide +kernel
theorem dX10_digest_164 : decode cX10_digest 164 = .ok (.iconst 1, 1) := by decide +kernel
theorem dX10_digest_165 : decode cX10_digest 165 = .ok (.invokevirtual 285, 3) := by decide +kernel
theorem dX10_digest_168 : decode cX10_digest 168 = .ok (.i2l, 1) := by decide +kernel
theorem dX10_digest_169 : decode cX10_digest 169 = .ok (.ladd, 1) := by decide +kernel
theorem dX10_digest_170 : decode cX10_digest 170 = .ok (.lstore_n 1, 1) := by decide +kernel
theorem dX10_digest_171 : decode cX10_digest 171 = .ok (.ldc2_w 345, 3) := by decide +kernel
theorem dX10_digest_174 : decode cX10_digest 174 = .ok (.lload_n 1, 1) := by decide +kernel
theorem dX10_digest_175 : decode cX10_digest 175 = .ok (.lmul, 1) := by decide +kernel
theorem dX10_digest_176 : decode cX10_digest 176 = .ok (.aload_n 0, 1) := by decide +kernel
theorem dX10_digest_177 : decode cX10_digest 177 = .ok (.invokevirtual 295, 3) := by decide +kernel
theorem dX10_digest_180 : decode cX10_digest 180 = .ok (.i2l, 1) := by decide +kernel
theorem dX10_digest_181 : decode cX10_digest 181 = .ok (.ladd, 1) := by decide +kernel
theorem dX10_digest_182 : decode cX10_digest 182 = .ok (.lstore_n 1, 1) := by decide +kernel
theorem dX10_digest_183 : decode cX10_digest 183 = .ok (.ldc2_w 345, 3) := by decide +kernel
theorem dX10_digest_186 : decode cX10_digest 186 = .ok (.lload_n 1, 1) := by decide +kernel
theorem dX10_digest_187 : decode cX10_digest 187 = .ok (.lmul, 1) := by decide +kernel
theorem dX10_digest_188 : decode cX10_digest 188 = .ok (.aload_n 0, 1) := by decide +kernel
theorem dX10_digest_189 : decode cX10_digest 189 = .ok (.bipush 7, 2) := by decide +kernel
theorem dX10_digest_191 : decode cX10_digest 191 = .ok (.bipush 6, 2) := by decide +kernel
theorem dX10_digest_193 : decode cX10_digest 193 = .ok (.iconst 0, 1) := by decide +kernel
theorem dX10_digest_194 : decode cX10_digest 194 = .ok (.invokevirtual 339, 3) := by decide +kernel
theorem dX10_digest_197 : decode cX10_digest 197 = .ok (.i2l, 1) := by decide +kernel
theorem dX10_digest_198 : decode cX10_digest 198 = .ok (.ladd, 1) := by decide +kernel
theorem dX10_digest_199 : decode cX10_digest 199 = .ok (.lstore_n 1, 1) := by decide +kernel
theorem dX10_digest_200 : decode cX10_digest 200 = .ok (.ldc2_w 345, 3) := by decide +kernel
theorem dX10_digest_203 : decode cX10_digest 203 = .ok (.lload_n 1, 1) := by decide +kernel
theorem dX10_digest_204 : decode cX10_digest 204 = .ok (.lmul, 1) := by decide +kernel
theorem dX10_digest_205 : decode cX10_digest 205 = .ok (.aload_n 0, 1) := by decide +kernel
theorem dX10_digest_206 : decode cX10_digest 206 = .ok (.bipush 7, 2) := by decide +kernel
theorem dX10_digest_208 : decode cX10_digest 208 = .ok (.bipush 6, 2) := by decide +kernel
theorem dX10_digest_210 : decode cX10_digest 210 = .ok (.iconst 1, 1) := by decide +kernel
theorem dX10_digest_211 : decode cX10_digest 211 = .ok (.invokevirtual 339, 3) := by decide +kernel
theorem dX10_digest_214 : decode cX10_digest 214 = .ok (.i2l, 1) := by decide +kernel
theorem dX10_digest_215 : decode cX10_digest 215 = .ok (.ladd, 1) := by decide +kernel
theorem dX10_digest_216 : decode cX10_digest 216 = .ok (.lreturn, 1) := by decide +kernel
noncomputable def F10_digest_b103 (a1 : Int64) (M : Mem) : Option (Int64 × Mem) :=
  ((F10_lives M).bind (fun q15 => ((F10_goneNow q15).bind (fun q16 => ((F10_babelBy (0 : Int32) q15).bind (fun q17 => ((F10_babelBy (1 : Int32) q15).bind (fun q18 => ((F10_ironBy (0 : Int32) q15).bind (fun q19 => ((F10_ironBy (1 : Int32) q19.2).bind (fun q20 => ((F10_neverNow q20.2).bind (fun q21 => ((F10_dayOf (7 : Int32) (6 : Int32) (0 : Int32) q21.2).bind (fun q22 => ((F10_dayOf (7 : Int32) (6 : Int32) (1 : Int32) q22.2).bind (fun q23 => (some ((((31 : Int64) * (((31 : Int64) * (((31 : Int64) * (((31 : Int64) * (((31 : Int64) * (((31 : Int64) * (((31 : Int64) * (((31 : Int64) * a1) + q16.toInt64)) + q17.toInt64)) + q18.toInt64)) + q19.1.toInt64)) + q20.1.toInt64)) + q21.1.toInt64)) + q22.1.toInt64)) + q23.1.toInt64), q23.2))))))))))))))))))))
noncomputable def F10_digest_p82 (kh : Int64 → Int32 → Mem → Option (Int64 × Mem)) (kx103 : Int64 → Mem → Option (Int64 × Mem)) (a1 : Int64) (a3 : Int32) (M : Mem) : Option (Int64 × Mem) :=
  (if (M 0 9) ≤ a3 then kx103 a1 M else ((F10_tellsSaying a1 a3 M).bind (fun q24 => (kh q24.1 (a3 + (1 : Int32)) q24.2))))
noncomputable def F10_digest_h82 (kx103 : Int64 → Mem → Option (Int64 × Mem)) : Nat → Int64 → Int32 → Mem → Option (Int64 × Mem)
  | 0, _, _, _ => none
  | n + 1, a1, a3, M => F10_digest_p82 (F10_digest_h82 kx103 n) kx103 a1 a3 M
noncomputable def F10_digest_b80 (a1 : Int64) (M : Mem) : Option (Int64 × Mem) :=
  (F10_digest_h82 F10_digest_b103 FU) a1 (0 : Int32) M
noncomputable def F10_digest_p59 (kh : Int64 → Int32 → Mem → Option (Int64 × Mem)) (kx80 : Int64 → Mem → Option (Int64 × Mem)) (a1 : Int64) (a3 : Int32) (M : Mem) : Option (Int64 × Mem) :=
  (if (M 0 7) ≤ a3 then kx80 a1 M else ((F10_tellsWell a1 a3 M).bind (fun q25 => (kh q25.1 (a3 + (1 : Int32)) q25.2))))
noncomputable def F10_digest_h59 (kx80 : Int64 → Mem → Option (Int64 × Mem)) : Nat → Int64 → Int32 → Mem → Option (Int64 × Mem)
  | 0, _, _, _ => none
  | n + 1, a1, a3, M => F10_digest_p59 (F10_digest_h59 kx80 n) kx80 a1 a3 M
noncomputable def F10_digest_b31 (a1 : Int64) (M : Mem) : Option (Int64 × Mem) :=
  ((F10_readsText (0 : Int32) M).bind (fun q26 => ((F10_readsText (1 : Int32) q26.2).bind (fun q27 => ((F10_digest_h59 F10_digest_b80 FU) (((31 : Int64) * (((31 : Int64) * a1) + q26.1.toInt64)) + q27.1.toInt64) (0 : Int32) q27.2)))))
noncomputable def F10_digest_p6 (kh : Int64 → Int32 → Mem → Option (Int64 × Mem)) (kx31 : Int64 → Mem → Option (Int64 × Mem)) (a1 : Int64) (a3 : Int32) (M : Mem) : Option (Int64 × Mem) :=
  (if (8 : Int32) ≤ a3 then kx31 a1 M else ((F10_count a3 M).bind (fun q28 => (kh (((31 : Int64) * a1) + q28.1.toInt64) (a3 + (1 : Int32)) q28.2))))
noncomputable def F10_digest_h6 (kx31 : Int64 → Mem → Option (Int64 × Mem)) : Nat → Int64 → Int32 → Mem → Option (Int64 × Mem)
  | 0, _, _, _ => none
  | n + 1, a1, a3, M => F10_digest_p6 (F10_digest_h6 kx31 n) kx31 a1 a3 M
noncomputable def F10_digest (mm : Mem) : Option (Int64 × Mem) :=
  (F10_digest_h6 F10_digest_b31 FU) (17 : Int64) (0 : Int32) mm
set_option maxHeartbeats 4000000 in
set_option maxRecDepth 100000 in
theorem kX10_digest (l : Launch) (g : GG) (mc mm : Mem) (q : Int64 × Mem) (hF : F10_digest mm = some q) : KL l yX10_digest cX10_digest 4 10 239 g [.ref (g.1 108)] mc mm q.1 (mc, q.2) := by
  intro sz
  refine x_start (Qc := fun z => QL g z q.1 (mc, q.2)) (by decide +kernel) (Nat.le_of_ble_eq_true rfl) ?_ sz
  intro p e s m args below meth c ls Z hr hlk hP hl
  have hx := Z.1.1
  have hb := Z.1.2.1
  have hown := Z.1.2.2.2.1
  have hts := Z.1.2.2.2.2
  have hS : va_S (AA g s.heap.size) s.heap s.heap [] := va_S.rf
  have hl : lv_has ls 4 [(0, .ref (g.1 108))] := hl
  unfold F10_digest at hF
  have hb103 : ∀ (a1 : Int64) (M : Mem), F10_digest_b103 a1 M = some q → ∀ (H : Heap) (locs : List Loc) (ls : Array Slot), lv_has ls 4 [(0, .ref (g.1 108)), (1, .long a1)] → va_P g.2.2.1 vwCl (wL g mc M) H → va_S (AA g s.heap.size) s.heap H locs → W p l e { frames := 10, cells := 0, slots := 0, locals := 239 } s m args below meth c H locs 0 0 (MQ below (QL g s.heap.size q.1 (mc, q.2)) args s 0 0 (AA g s.heap.size)) (F0 m 103 ls []) := by
    intro a1 M hF H locs ls hl hP hS
    unfold F10_digest_b103 at hF
    refine lv_aload_n hx hb dX10_digest_103 rfl (lv_at hl 0 rfl) ?_
    obtain ⟨q15, hq15, hF⟩ := bd_ok hF
    refine xX10_lives Z hP hS hq15 wd_22_9 hl.1 (Nat.le_of_ble_eq_true rfl) ⟨Nat.le_of_ble_eq_true rfl, Nat.le_of_ble_eq_true rfl⟩ dX10_digest_104 (fun H locs hP hS => ?_)
    refine lv_ldc2 (v := (31 : Int64)) hx hb hown (hts _ wd_45_3) dX10_digest_107 ?_
    refine lv_lload_n hx hb dX10_digest_110 rfl (lv_at hl 1 rfl) ?_
    refine lv_lmul hx hb dX10_digest_111 ?_
    refine lv_aload_n hx hb dX10_digest_112 rfl (lv_at hl 0 rfl) ?_
    obtain ⟨q16, hq16, hF⟩ := bd_ok hF
    refine xX10_goneNow Z hP hS hq16 wd_26_18 hl.1 (Nat.le_of_ble_eq_true rfl) ⟨Nat.le_of_ble_eq_true rfl, Nat.le_of_ble_eq_true rfl⟩ dX10_digest_113 (fun H locs hP hS => ?_)
    refine lv_i2l (v := q16.toInt64) hx hb dX10_digest_116 rfl ?_
    refine lv_ladd hx hb dX10_digest_117 ?_
    refine lv_lstore_n (lv' := [(1, .long (((31 : Int64) * a1) + q16.toInt64)), (0, .ref (g.1 108))]) hx hb dX10_digest_118 rfl hl (Nat.le_of_ble_eq_true rfl) rfl (fun ls hl => ?_)
    refine lv_ldc2 (v := (31 : Int64)) hx hb hown (hts _ wd_45_3) dX10_digest_119 ?_
    refine lv_lload_n hx hb dX10_digest_122 rfl (lv_at hl 0 rfl) ?_
    refine lv_lmul hx hb dX10_digest_123 ?_
    refine lv_aload_n hx hb dX10_digest_124 rfl (lv_at hl 1 rfl) ?_
    refine lv_iconst (v := (0 : Int32)) hx hb dX10_digest_125 ic_0 ?_
    obtain ⟨q17, hq17, hF⟩ := bd_ok hF
    refine xX10_babelBy Z hP hS hq17 wd_27_10 hl.1 (Nat.le_of_ble_eq_true rfl) ⟨Nat.le_of_ble_eq_true rfl, Nat.le_of_ble_eq_true rfl⟩ dX10_digest_126 (fun H locs hP hS => ?_)
    refine lv_i2l (v := q17.toInt64) hx hb dX10_digest_129 rfl ?_
    refine lv_ladd hx hb dX10_digest_130 ?_
    refine lv_lstore_n (lv' := [(1, .long (((31 : Int64) * (((31 : Int64) * a1) + q16.toInt64)) + q17.toInt64)), (0, .ref (g.1 108))]) hx hb dX10_digest_131 rfl hl (Nat.le_of_ble_eq_true rfl) rfl (fun ls hl => ?_)
    refine lv_ldc2 (v := (31 : Int64)) hx hb hown (hts _ wd_45_3) dX10_digest_132 ?_
    refine lv_lload_n hx hb dX10_digest_135 rfl (lv_at hl 0 rfl) ?_
    refine lv_lmul hx hb dX10_digest_136 ?_
    refine lv_aload_n hx hb dX10_digest_137 rfl (lv_at hl 1 rfl) ?_
    refine lv_iconst (v := (1 : Int32)) hx hb dX10_digest_138 ic_1 ?_
    obtain ⟨q18, hq18, hF⟩ := bd_ok hF
    refine xX10_babelBy Z hP hS hq18 wd_27_10 hl.1 (Nat.le_of_ble_eq_true rfl) ⟨Nat.le_of_ble_eq_true rfl, Nat.le_of_ble_eq_true rfl⟩ dX10_digest_139 (fun H locs hP hS => ?_)
    refine lv_i2l (v := q18.toInt64) hx hb dX10_digest_142 rfl ?_
    refine lv_ladd hx hb dX10_digest_143 ?_
    refine lv_lstore_n (lv' := [(1, .long (((31 : Int64) * (((31 : Int64) * (((31 : Int64) * a1) + q16.toInt64)) + q17.toInt64)) + q18.toInt64)), (0, .ref (g.1 108))]) hx hb dX10_digest_144 rfl hl (Nat.le_of_ble_eq_true rfl) rfl (fun ls hl => ?_)
    refine lv_ldc2 (v := (31 : Int64)) hx hb hown (hts _ wd_45_3) dX10_digest_145 ?_
    refine lv_lload_n hx hb dX10_digest_148 rfl (lv_at hl 0 rfl) ?_
    refine lv_lmul hx hb dX10_digest_149 ?_
    refine lv_aload_n hx hb dX10_digest_150 rfl (lv_at hl 1 rfl) ?_
    refine lv_iconst (v := (0 : Int32)) hx hb dX10_digest_151 ic_0 ?_
    obtain ⟨q19, hq19, hF⟩ := bd_ok hF
    refine xX10_ironBy Z hP hS hq19 wd_31_17 hl.1 (Nat.le_of_ble_eq_true rfl) ⟨Nat.le_of_ble_eq_true rfl, Nat.le_of_ble_eq_true rfl⟩ dX10_digest_152 (fun H locs hP hS => ?_)
    refine lv_i2l (v := q19.1.toInt64) hx hb dX10_digest_155 rfl ?_
    refine lv_ladd hx hb dX10_digest_156 ?_
    refine lv_lstore_n (lv' := [(1, .long (((31 : Int64) * (((31 : Int64) * (((31 : Int64) * (((31 : Int64) * a1) + q16.toInt64)) + q17.toInt64)) + q18.toInt64)) + q19.1.toInt64)), (0, .ref (g.1 108))]) hx hb dX10_digest_157 rfl hl (Nat.le_of_ble_eq_true rfl) rfl (fun ls hl => ?_)
    refine lv_ldc2 (v := (31 : Int64)) hx hb hown (hts _ wd_45_3) dX10_digest_158 ?_
    refine lv_lload_n hx hb dX10_digest_161 rfl (lv_at hl 0 rfl) ?_
    refine lv_lmul hx hb dX10_digest_162 ?_
    refine lv_aload_n hx hb dX10_digest_163 rfl (lv_at hl 1 rfl) ?_
    refine lv_iconst (v := (1 : Int32)) hx hb dX10_digest_164 ic_1 ?_
    obtain ⟨q20, hq20, hF⟩ := bd_ok hF
    refine xX10_ironBy Z hP hS hq20 wd_31_17 hl.1 (Nat.le_of_ble_eq_true rfl) ⟨Nat.le_of_ble_eq_true rfl, Nat.le_of_ble_eq_true rfl⟩ dX10_digest_165 (fun H locs hP hS => ?_)
    refine lv_i2l (v := q20.1.toInt64) hx hb dX10_digest_168 rfl ?_
    refine lv_ladd hx hb dX10_digest_169 ?_
    refine lv_lstore_n (lv' := [(1, .long (((31 : Int64) * (((31 : Int64) * (((31 : Int64) * (((31 : Int64) * (((31 : Int64) * a1) + q16.toInt64)) + q17.toInt64)) + q18.toInt64)) + q19.1.toInt64)) + q20.1.toInt64)), (0, .ref (g.1 108))]) hx hb dX10_digest_170 rfl hl (Nat.le_of_ble_eq_true rfl) rfl (fun ls hl => ?_)
    refine lv_ldc2 (v := (31 : Int64)) hx hb hown (hts _ wd_45_3) dX10_digest_171 ?_
    refine lv_lload_n hx hb dX10_digest_174 rfl (lv_at hl 0 rfl) ?_
    refine lv_lmul hx hb dX10_digest_175 ?_
    refine lv_aload_n hx hb dX10_digest_176 rfl (lv_at hl 1 rfl) ?_
    obtain ⟨q21, hq21, hF⟩ := bd_ok hF
    refine xX10_neverNow Z hP hS hq21 wd_33_10 hl.1 (Nat.le_of_ble_eq_true rfl) ⟨Nat.le_of_ble_eq_true rfl, Nat.le_of_ble_eq_true rfl⟩ dX10_digest_177 (fun H locs hP hS => ?_)
    refine lv_i2l (v := q21.1.toInt64) hx hb dX10_digest_180 rfl ?_
    refine lv_ladd hx hb dX10_digest_181 ?_
    refine lv_lstore_n (lv' := [(1, .long (((31 : Int64) * (((31 : Int64) * (((31 : Int64) * (((31 : Int64) * (((31 : Int64) * (((31 : Int64) * a1) + q16.toInt64)) + q17.toInt64)) + q18.toInt64)) + q19.1.toInt64)) + q20.1.toInt64)) + q21.1.toInt64)), (0, .ref (g.1 108))]) hx hb dX10_digest_182 rfl hl (Nat.le_of_ble_eq_true rfl) rfl (fun ls hl => ?_)
    refine lv_ldc2 (v := (31 : Int64)) hx hb hown (hts _ wd_45_3) dX10_digest_183 ?_
    refine lv_lload_n hx hb dX10_digest_186 rfl (lv_at hl 0 rfl) ?_
    refine lv_lmul hx hb dX10_digest_187 ?_
    refine lv_aload_n hx hb dX10_digest_188 rfl (lv_at hl 1 rfl) ?_
    refine lv_bipush (v := (7 : Int32)) hx hb dX10_digest_189 bp_7 ?_
    refine lv_bipush (v := (6 : Int32)) hx hb dX10_digest_191 bp_6 ?_
    refine lv_iconst (v := (0 : Int32)) hx hb dX10_digest_193 ic_0 ?_
    obtain ⟨q22, hq22, hF⟩ := bd_ok hF
    refine xX10_dayOf Z hP hS hq22 wd_38_21 hl.1 (Nat.le_of_ble_eq_true rfl) ⟨Nat.le_of_ble_eq_true rfl, Nat.le_of_ble_eq_true rfl⟩ dX10_digest_194 (fun H locs hP hS => ?_)
    refine lv_i2l (v := q22.1.toInt64) hx hb dX10_digest_197 rfl ?_
    refine lv_ladd hx hb dX10_digest_198 ?_
    refine lv_lstore_n (lv' := [(1, .long (((31 : Int64) * (((31 : Int64) * (((31 : Int64) * (((31 : Int64) * (((31 : Int64) * (((31 : Int64) * (((31 : Int64) * a1) + q16.toInt64)) + q17.toInt64)) + q18.toInt64)) + q19.1.toInt64)) + q20.1.toInt64)) + q21.1.toInt64)) + q22.1.toInt64)), (0, .ref (g.1 108))]) hx hb dX10_digest_199 rfl hl (Nat.le_of_ble_eq_true rfl) rfl (fun ls hl => ?_)
    refine lv_ldc2 (v := (31 : Int64)) hx hb hown (hts _ wd_45_3) dX10_digest_200 ?_
    refine lv_lload_n hx hb dX10_digest_203 rfl (lv_at hl 0 rfl) ?_
    refine lv_lmul hx hb dX10_digest_204 ?_
    refine lv_aload_n hx hb dX10_digest_205 rfl (lv_at hl 1 rfl) ?_
    refine lv_bipush (v := (7 : Int32)) hx hb dX10_digest_206 bp_7 ?_
    refine lv_bipush (v := (6 : Int32)) hx hb dX10_digest_208 bp_6 ?_
    refine lv_iconst (v := (1 : Int32)) hx hb dX10_digest_210 ic_1 ?_
    obtain ⟨q23, hq23, hF⟩ := bd_ok hF
    refine xX10_dayOf Z hP hS hq23 wd_38_21 hl.1 (Nat.le_of_ble_eq_true rfl) ⟨Nat.le_of_ble_eq_true rfl, Nat.le_of_ble_eq_true rfl⟩ dX10_digest_211 (fun H locs hP hS => ?_)
    refine lv_i2l (v := q23.1.toInt64) hx hb dX10_digest_214 rfl ?_
    refine lv_ladd hx hb dX10_digest_215 ?_
    exact ret_JWM Z hr hlk hP hS hF dX10_digest_216
  have hL82 : ∀ (kx103 : Int64 → Mem → Option (Int64 × Mem)), (∀ (a1 : Int64) (M : Mem), kx103 a1 M = some q → ∀ (H : Heap) (locs : List Loc) (ls : Array Slot), lv_has ls 4 [(0, .ref (g.1 108)), (1, .long a1)] → va_P g.2.2.1 vwCl (wL g mc M) H → va_S (AA g s.heap.size) s.heap H locs → W p l e { frames := 10, cells := 0, slots := 0, locals := 239 } s m args below meth c H locs 0 0 (MQ below (QL g s.heap.size q.1 (mc, q.2)) args s 0 0 (AA g s.heap.size)) (F0 m 103 ls [])) → ∀ n : Nat, ∀ (a1 : Int64) (a3 : Int32) (M : Mem), F10_digest_h82 kx103 n a1 a3 M = some q → ∀ (H : Heap) (locs : List Loc) (ls : Array Slot), lv_has ls 4 [(0, .ref (g.1 108)), (1, .long a1), (3, .int a3)] → va_P g.2.2.1 vwCl (wL g mc M) H → va_S (AA g s.heap.size) s.heap H locs → W p l e { frames := 10, cells := 0, slots := 0, locals := 239 } s m args below meth c H locs 0 0 (MQ below (QL g s.heap.size q.1 (mc, q.2)) args s 0 0 (AA g s.heap.size)) (F0 m 82 ls []) := by
    intro kx103 hx103 n
    induction n with
    | zero => intro a1 a3 M hF H locs ls hl hP hS; exact absurd hF (fun z => nomatch (show (none : Option _) = some q from z))
    | succ n ih =>
      generalize hkh : F10_digest_h82 kx103 n = kh at ih
      intro a1 a3 M hF H locs ls hl hP hS
      have hF : F10_digest_p82 (F10_digest_h82 kx103 n) kx103 a1 a3 M = some q := hF
      rw [hkh] at hF
      unfold F10_digest_p82 at hF
      refine lv_iload_n hx hb dX10_digest_82 rfl (lv_at hl 2 rfl) ?_
      refine lv_aload_n hx hb dX10_digest_83 rfl (lv_at hl 0 rfl) ?_
      refine gf10_9 Z hP wd_15_5 dX10_digest_84 ?_
      refine lv_icmp_ge (tgt := 103) hx hb dX10_digest_87 rfl (fun hc => ?_) (fun hc => ?_)
      · have hF := (if_pos hc).symm.trans hF
        exact hx103 _ _ hF _ _ _ (lv_sub hl [0, 1] rfl) hP hS
      · have hF := (if_neg hc).symm.trans hF
        refine lv_aload_n hx hb dX10_digest_90 rfl (lv_at hl 0 rfl) ?_
        refine lv_lload_n hx hb dX10_digest_91 rfl (lv_at hl 1 rfl) ?_
        refine lv_iload_n hx hb dX10_digest_92 rfl (lv_at hl 2 rfl) ?_
        obtain ⟨q24, hq24, hF⟩ := bd_ok hF
        refine xX10_tellsSaying Z hP hS hq24 wd_45_9 hl.1 (Nat.le_of_ble_eq_true rfl) ⟨Nat.le_of_ble_eq_true rfl, Nat.le_of_ble_eq_true rfl⟩ dX10_digest_93 (fun H locs hP hS => ?_)
        refine lv_lstore_n (lv' := [(1, .long q24.1), (0, .ref (g.1 108)), (3, .int a3)]) hx hb dX10_digest_96 rfl hl (Nat.le_of_ble_eq_true rfl) rfl (fun ls hl => ?_)
        refine lv_iinc (lv' := [(3, .int (a3 + (1 : Int32))), (1, .long q24.1), (0, .ref (g.1 108))]) (v := (a3 + (1 : Int32))) hx hb dX10_digest_97 hl (k := 2) rfl (io_1 _) (Nat.le_of_ble_eq_true rfl) rfl (fun ls hl => ?_)
        refine lv_goto (tgt := 82) hx hb dX10_digest_100 rfl ?_
        exact ih _ _ _ hF _ _ _ (lv_sub hl [2, 1, 0] rfl) hP hS
  have hb80 : ∀ (a1 : Int64) (M : Mem), F10_digest_b80 a1 M = some q → ∀ (H : Heap) (locs : List Loc) (ls : Array Slot), lv_has ls 4 [(0, .ref (g.1 108)), (1, .long a1)] → va_P g.2.2.1 vwCl (wL g mc M) H → va_S (AA g s.heap.size) s.heap H locs → W p l e { frames := 10, cells := 0, slots := 0, locals := 239 } s m args below meth c H locs 0 0 (MQ below (QL g s.heap.size q.1 (mc, q.2)) args s 0 0 (AA g s.heap.size)) (F0 m 80 ls []) := by
    intro a1 M hF H locs ls hl hP hS
    unfold F10_digest_b80 at hF
    refine lv_iconst (v := (0 : Int32)) hx hb dX10_digest_80 ic_0 ?_
    refine lv_istore_n (lv' := [(3, .int (0 : Int32)), (0, .ref (g.1 108)), (1, .long a1)]) hx hb dX10_digest_81 rfl hl (Nat.le_of_ble_eq_true rfl) rfl (fun ls hl => ?_)
    exact (hL82 _ hb103 FU) _ _ _ hF _ _ _ (lv_sub hl [1, 2, 0] rfl) hP hS
  have hL59 : ∀ (kx80 : Int64 → Mem → Option (Int64 × Mem)), (∀ (a1 : Int64) (M : Mem), kx80 a1 M = some q → ∀ (H : Heap) (locs : List Loc) (ls : Array Slot), lv_has ls 4 [(0, .ref (g.1 108)), (1, .long a1)] → va_P g.2.2.1 vwCl (wL g mc M) H → va_S (AA g s.heap.size) s.heap H locs → W p l e { frames := 10, cells := 0, slots := 0, locals := 239 } s m args below meth c H locs 0 0 (MQ below (QL g s.heap.size q.1 (mc, q.2)) args s 0 0 (AA g s.heap.size)) (F0 m 80 ls [])) → ∀ n : Nat, ∀ (a1 : Int64) (a3 : Int32) (M : Mem), F10_digest_h59 kx80 n a1 a3 M = some q → ∀ (H : Heap) (locs : List Loc) (ls : Array Slot), lv_has ls 4 [(0, .ref (g.1 108)), (1, .long a1), (3, .int a3)] → va_P g.2.2.1 vwCl (wL g mc M) H → va_S (AA g s.heap.size) s.heap H locs → W p l e { frames := 10, cells := 0, slots := 0, locals := 239 } s m args below meth c H locs 0 0 (MQ below (QL g s.heap.size q.1 (mc, q.2)) args s 0 0 (AA g s.heap.size)) (F0 m 59 ls []) := by
    intro kx80 hx80 n
    induction n with
    | zero => intro a1 a3 M hF H locs ls hl hP hS; exact absurd hF (fun z => nomatch (show (none : Option _) = some q from z))
    | succ n ih =>
      generalize hkh : F10_digest_h59 kx80 n = kh at ih
      intro a1 a3 M hF H locs ls hl hP hS
      have hF : F10_digest_p59 (F10_digest_h59 kx80 n) kx80 a1 a3 M = some q := hF
      rw [hkh] at hF
      unfold F10_digest_p59 at hF
      refine lv_iload_n hx hb dX10_digest_59 rfl (lv_at hl 2 rfl) ?_
      refine lv_aload_n hx hb dX10_digest_60 rfl (lv_at hl 0 rfl) ?_
      refine gf10_7 Z hP wd_14_19 dX10_digest_61 ?_
      refine lv_icmp_ge (tgt := 80) hx hb dX10_digest_64 rfl (fun hc => ?_) (fun hc => ?_)
      · have hF := (if_pos hc).symm.trans hF
        exact hx80 _ _ hF _ _ _ (lv_sub hl [0, 1] rfl) hP hS
      · have hF := (if_neg hc).symm.trans hF
        refine lv_aload_n hx hb dX10_digest_67 rfl (lv_at hl 0 rfl) ?_
        refine lv_lload_n hx hb dX10_digest_68 rfl (lv_at hl 1 rfl) ?_
        refine lv_iload_n hx hb dX10_digest_69 rfl (lv_at hl 2 rfl) ?_
        obtain ⟨q25, hq25, hF⟩ := bd_ok hF
        refine xX10_tellsWell Z hP hS hq25 wd_45_5 hl.1 (Nat.le_of_ble_eq_true rfl) ⟨Nat.le_of_ble_eq_true rfl, Nat.le_of_ble_eq_true rfl⟩ dX10_digest_70 (fun H locs hP hS => ?_)
        refine lv_lstore_n (lv' := [(1, .long q25.1), (0, .ref (g.1 108)), (3, .int a3)]) hx hb dX10_digest_73 rfl hl (Nat.le_of_ble_eq_true rfl) rfl (fun ls hl => ?_)
        refine lv_iinc (lv' := [(3, .int (a3 + (1 : Int32))), (1, .long q25.1), (0, .ref (g.1 108))]) (v := (a3 + (1 : Int32))) hx hb dX10_digest_74 hl (k := 2) rfl (io_1 _) (Nat.le_of_ble_eq_true rfl) rfl (fun ls hl => ?_)
        refine lv_goto (tgt := 59) hx hb dX10_digest_77 rfl ?_
        exact ih _ _ _ hF _ _ _ (lv_sub hl [2, 1, 0] rfl) hP hS
  have hb31 : ∀ (a1 : Int64) (M : Mem), F10_digest_b31 a1 M = some q → ∀ (H : Heap) (locs : List Loc) (ls : Array Slot), lv_has ls 4 [(0, .ref (g.1 108)), (1, .long a1)] → va_P g.2.2.1 vwCl (wL g mc M) H → va_S (AA g s.heap.size) s.heap H locs → W p l e { frames := 10, cells := 0, slots := 0, locals := 239 } s m args below meth c H locs 0 0 (MQ below (QL g s.heap.size q.1 (mc, q.2)) args s 0 0 (AA g s.heap.size)) (F0 m 31 ls []) := by
    intro a1 M hF H locs ls hl hP hS
    unfold F10_digest_b31 at hF
    refine lv_ldc2 (v := (31 : Int64)) hx hb hown (hts _ wd_45_3) dX10_digest_31 ?_
    refine lv_lload_n hx hb dX10_digest_34 rfl (lv_at hl 1 rfl) ?_
    refine lv_lmul hx hb dX10_digest_35 ?_
    refine lv_aload_n hx hb dX10_digest_36 rfl (lv_at hl 0 rfl) ?_
    refine lv_iconst (v := (0 : Int32)) hx hb dX10_digest_37 ic_0 ?_
    obtain ⟨q26, hq26, hF⟩ := bd_ok hF
    refine xX10_readsText Z hP hS hq26 wd_14_11 hl.1 (Nat.le_of_ble_eq_true rfl) ⟨Nat.le_of_ble_eq_true rfl, Nat.le_of_ble_eq_true rfl⟩ dX10_digest_38 (fun H locs hP hS => ?_)
    refine lv_i2l (v := q26.1.toInt64) hx hb dX10_digest_41 rfl ?_
    refine lv_ladd hx hb dX10_digest_42 ?_
    refine lv_lstore_n (lv' := [(1, .long (((31 : Int64) * a1) + q26.1.toInt64)), (0, .ref (g.1 108))]) hx hb dX10_digest_43 rfl hl (Nat.le_of_ble_eq_true rfl) rfl (fun ls hl => ?_)
    refine lv_ldc2 (v := (31 : Int64)) hx hb hown (hts _ wd_45_3) dX10_digest_44 ?_
    refine lv_lload_n hx hb dX10_digest_47 rfl (lv_at hl 0 rfl) ?_
    refine lv_lmul hx hb dX10_digest_48 ?_
    refine lv_aload_n hx hb dX10_digest_49 rfl (lv_at hl 1 rfl) ?_
    refine lv_iconst (v := (1 : Int32)) hx hb dX10_digest_50 ic_1 ?_
    obtain ⟨q27, hq27, hF⟩ := bd_ok hF
    refine xX10_readsText Z hP hS hq27 wd_14_11 hl.1 (Nat.le_of_ble_eq_true rfl) ⟨Nat.le_of_ble_eq_true rfl, Nat.le_of_ble_eq_true rfl⟩ dX10_digest_51 (fun H locs hP hS => ?_)
    refine lv_i2l (v := q27.1.toInt64) hx hb dX10_digest_54 rfl ?_
    refine lv_ladd hx hb dX10_digest_55 ?_
    refine lv_lstore_n (lv' := [(1, .long (((31 : Int64) * (((31 : Int64) * a1) + q26.1.toInt64)) + q27.1.toInt64)), (0, .ref (g.1 108))]) hx hb dX10_digest_56 rfl hl (Nat.le_of_ble_eq_true rfl) rfl (fun ls hl => ?_)
    refine lv_iconst (v := (0 : Int32)) hx hb dX10_digest_57 ic_0 ?_
    refine lv_istore_n (lv' := [(3, .int (0 : Int32)), (1, .long (((31 : Int64) * (((31 : Int64) * a1) + q26.1.toInt64)) + q27.1.toInt64)), (0, .ref (g.1 108))]) hx hb dX10_digest_58 rfl hl (Nat.le_of_ble_eq_true rfl) rfl (fun ls hl => ?_)
    exact (hL59 _ hb80 FU) _ _ _ hF _ _ _ (lv_sub hl [2, 1, 0] rfl) hP hS
  have hL6 : ∀ (kx31 : Int64 → Mem → Option (Int64 × Mem)), (∀ (a1 : Int64) (M : Mem), kx31 a1 M = some q → ∀ (H : Heap) (locs : List Loc) (ls : Array Slot), lv_has ls 4 [(0, .ref (g.1 108)), (1, .long a1)] → va_P g.2.2.1 vwCl (wL g mc M) H → va_S (AA g s.heap.size) s.heap H locs → W p l e { frames := 10, cells := 0, slots := 0, locals := 239 } s m args below meth c H locs 0 0 (MQ below (QL g s.heap.size q.1 (mc, q.2)) args s 0 0 (AA g s.heap.size)) (F0 m 31 ls [])) → ∀ n : Nat, ∀ (a1 : Int64) (a3 : Int32) (M : Mem), F10_digest_h6 kx31 n a1 a3 M = some q → ∀ (H : Heap) (locs : List Loc) (ls : Array Slot), lv_has ls 4 [(0, .ref (g.1 108)), (1, .long a1), (3, .int a3)] → va_P g.2.2.1 vwCl (wL g mc M) H → va_S (AA g s.heap.size) s.heap H locs → W p l e { frames := 10, cells := 0, slots := 0, locals := 239 } s m args below meth c H locs 0 0 (MQ below (QL g s.heap.size q.1 (mc, q.2)) args s 0 0 (AA g s.heap.size)) (F0 m 6 ls []) := by
    intro kx31 hx31 n
    induction n with
    | zero => intro a1 a3 M hF H locs ls hl hP hS; exact absurd hF (fun z => nomatch (show (none : Option _) = some q from z))
    | succ n ih =>
      generalize hkh : F10_digest_h6 kx31 n = kh at ih
      intro a1 a3 M hF H locs ls hl hP hS
      have hF : F10_digest_p6 (F10_digest_h6 kx31 n) kx31 a1 a3 M = some q := hF
      rw [hkh] at hF
      unfold F10_digest_p6 at hF
      refine lv_iload_n hx hb dX10_digest_6 rfl (lv_at hl 2 rfl) ?_
      refine lv_bipush (v := (8 : Int32)) hx hb dX10_digest_7 bp_8 ?_
      refine lv_icmp_ge (tgt := 31) hx hb dX10_digest_9 rfl (fun hc => ?_) (fun hc => ?_)
      · have hF := (if_pos hc).symm.trans hF
        exact hx31 _ _ hF _ _ _ (lv_sub hl [0, 1] rfl) hP hS
      · have hF := (if_neg hc).symm.trans hF
        refine lv_ldc2 (v := (31 : Int64)) hx hb hown (hts _ wd_45_3) dX10_digest_12 ?_
        refine lv_lload_n hx hb dX10_digest_15 rfl (lv_at hl 1 rfl) ?_
        refine lv_lmul hx hb dX10_digest_16 ?_
        refine lv_aload_n hx hb dX10_digest_17 rfl (lv_at hl 0 rfl) ?_
        refine lv_iload_n hx hb dX10_digest_18 rfl (lv_at hl 2 rfl) ?_
        obtain ⟨q28, hq28, hF⟩ := bd_ok hF
        refine xX10_count Z hP hS hq28 wd_45_4 hl.1 (Nat.le_of_ble_eq_true rfl) ⟨Nat.le_of_ble_eq_true rfl, Nat.le_of_ble_eq_true rfl⟩ dX10_digest_19 (fun H locs hP hS => ?_)
        refine lv_i2l (v := q28.1.toInt64) hx hb dX10_digest_22 rfl ?_
        refine lv_ladd hx hb dX10_digest_23 ?_
        refine lv_lstore_n (lv' := [(1, .long (((31 : Int64) * a1) + q28.1.toInt64)), (0, .ref (g.1 108)), (3, .int a3)]) hx hb dX10_digest_24 rfl hl (Nat.le_of_ble_eq_true rfl) rfl (fun ls hl => ?_)
        refine lv_iinc (lv' := [(3, .int (a3 + (1 : Int32))), (1, .long (((31 : Int64) * a1) + q28.1.toInt64)), (0, .ref (g.1 108))]) (v := (a3 + (1 : Int32))) hx hb dX10_digest_25 hl (k := 2) rfl (io_1 _) (Nat.le_of_ble_eq_true rfl) rfl (fun ls hl => ?_)
        refine lv_goto (tgt := 6) hx hb dX10_digest_28 rfl ?_
        exact ih _ _ _ hF _ _ _ (lv_sub hl [2, 1, 0] rfl) hP hS
  refine lv_ldc2 (v := (17 : Int64)) hx hb hown (hts _ wd_45_2) dX10_digest_0 ?_
  refine lv_lstore_n (lv' := [(1, .long (17 : Int64)), (0, .ref (g.1 108))]) hx hb dX10_digest_3 rfl hl (Nat.le_of_ble_eq_true rfl) rfl (fun ls hl => ?_)
  refine lv_iconst (v := (0 : Int32)) hx hb dX10_digest_4 ic_0 ?_
  refine lv_istore_n (lv' := [(3, .int (0 : Int32)), (1, .long (17 : Int64)), (0, .ref (g.1 108))]) hx hb dX10_digest_5 rfl hl (Nat.le_of_ble_eq_true rfl) rfl (fun ls hl => ?_)
  exact (hL6 _ hb31 FU) _ _ _ hF _ _ _ (lv_sub hl [2, 1, 0] rfl) hP hS
theorem xX10_digest {p : Program} {l : Launch} {e : Env} {R : Room} {s : State} {m : MethodId} {args : Array Value} {below : List Frame} {meth : Method} {c : Code} {H : Heap} {locs : List Loc} {Q : State → Prop} {cc : ByteArray} {nL : Nat} {own : String} {g : GG} {pc index : Nat} {ls : Array Slot} {rest : List Value} {mc mm : Mem} (Z : ZZ p s m args c cc nL own g) (hP : va_P g.2.2.1 vwCl (wL g mc mm) H) (hS : va_S (AA g s.heap.size) s.heap H locs) {q : Int64 × Mem} (hq : F10_digest mm = some q) (hlk : Cond.methodLink own index yX10_digest ∈ wsL_law) (hsz : ls.size = nL) (hro : (rest.map fun v => v.category).sum ≤ 8) (hR : 10 + 1 ≤ R.frames ∧ 8 + (4 + 11) + 239 ≤ R.locals) (hdg : decode cc pc = .ok (.invokevirtual index, 3)) (kk : ∀ (H : Heap) (locs : List Loc), va_P g.2.2.1 vwCl (wL g mc q.2) H → va_S (AA g s.heap.size) s.heap H locs → W p l e R s m args below meth c H locs 0 0 Q (F0 m (pc + 3) ls (.long q.1 :: rest))) : W p l e R s m args below meth c H locs 0 0 Q (F0 m pc ls (.ref (g.1 108) :: rest)) :=
  x_VL Z hP hS (kX10_digest l g mc mm q hq) (mO) (ci := 10) (by decide) rfl rfl mf_X10_digest mv_X10_digest hlk rfl rfl hsz hro hR hdg kk

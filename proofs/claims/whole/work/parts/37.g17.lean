theorem dX9_digest_0 : decode cX9_digest 0 = .ok (.ldc2_w 312, 3) := by decide +kernel
theorem dX9_digest_3 : decode cX9_digest 3 = .ok (.lstore_n 1, 1) := by decide +kernel
theorem dX9_digest_4 : decode cX9_digest 4 = .ok (.iconst 0, 1) := by decide +kernel
theorem dX9_digest_5 : decode cX9_digest 5 = .ok (.istore_n 3, 1) := by decide +kernel
theorem dX9_digest_6 : decode cX9_digest 6 = .ok (.iload_n 3, 1) := by decide +kernel
theorem dX9_digest_7 : decode cX9_digest 7 = .ok (.bipush 8, 2) := by decide +kernel
theorem dX9_digest_9 : decode cX9_digest 9 = .ok (.if_icmp .ge 22, 3) := by decide +kernel
theorem dX9_digest_12 : decode cX9_digest 12 = .ok (.ldc2_w 314, 3) := by decide +kernel
theorem dX9_digest_15 : decode cX9_digest 15 = .ok (.lload_n 1, 1) := by decide +kernel
theorem dX9_digest_16 : decode cX9_digest 16 = .ok (.lmul, 1) := by decide +kernel
theorem dX9_digest_17 : decode cX9_digest 17 = .ok (.aload_n 0, 1) := by decide +kernel
theorem dX9_digest_18 : decode cX9_digest 18 = .ok (.iload_n 3, 1) := by decide +kernel
theorem dX9_digest_19 : decode cX9_digest 19 = .ok (.invokevirtual 316, 3) := by decide +kernel
theorem dX9_digest_22 : decode cX9_digest 22 = .ok (.i2l, 1) := by decide +kernel
theorem dX9_digest_23 : decode cX9_digest 23 = .ok (.ladd, 1) := by decide +kernel
theorem dX9_digest_24 : decode cX9_digest 24 = .ok (.lstore_n 1, 1) := by decide +kernel
theorem dX9_digest_25 : decode cX9_digest 25 = .ok (.iinc 3 1, 3) := by decide +kernel
theorem dX9_digest_28 : decode cX9_digest 28 = .ok (.goto (-22), 3) := by decide +kernel
theorem dX9_digest_31 : decode cX9_digest 31 = .ok (.iconst 0, 1) := by decide +kernel
theorem dX9_digest_32 : decode cX9_digest 32 = .ok (.istore_n 3, 1) := by decide +kernel
theorem dX9_digest_33 : decode cX9_digest 33 = .ok (.iload_n 3, 1) := by decide +kernel
theorem dX9_digest_34 : decode cX9_digest 34 = .ok (.aload_n 0, 1) := by decide +kernel
theorem dX9_digest_35 : decode cX9_digest 35 = .ok (.getfield 12, 3) := by decide +kernel
theorem dX9_digest_38 : decode cX9_digest 38 = .ok (.arraylength, 1) := by decide +kernel
theorem dX9_digest_39 : decode cX9_digest 39 = .ok (.if_icmp .ge 22, 3) := by decide +kernel
theorem dX9_digest_42 : decode cX9_digest 42 = .ok (.ldc2_w 314, 3) := by decide +kernel
theorem dX9_digest_45 : decode cX9_digest 45 = .ok (.lload_n 1, 1) := by decide +kernel
theorem dX9_digest_46 : decode cX9_digest 46 = .ok (.lmul, 1) := by decide +kernel
theorem dX9_digest_47 : decode cX9_digest 47 = .ok (.aload_n 0, 1) := by decide +kernel
theorem dX9_digest_48 : decode cX9_digest 48 = .ok (.iload_n 3, 1) := by decide +kernel
theorem dX9_digest_49 : decode cX9_digest 49 = .ok (.invokevirtual 318, 3) := by decide +kernel
theorem dX9_digest_52 : decode cX9_digest 52 = .ok (.i2l, 1) := by decide +kernel
theorem dX9_digest_53 : decode cX9_digest 53 = .ok (.ladd, 1) := by decide +kernel
theorem dX9_digest_54 : decode cX9_digest 54 = .ok (.lstore_n 1, 1) := by decide +kernel
theorem dX9_digest_55 : decode cX9_digest 55 = .ok (.iinc 3 1, 3) := by decide +kernel
theorem dX9_digest_58 : decode cX9_digest 58 = .ok (.goto (-25), 3) := by decide +kernel
theorem dX9_digest_61 : decode cX9_digest 61 = .ok (.iconst 0, 1) := by decide +kernel
theorem dX9_digest_62 : decode cX9_digest 62 = .ok (.istore_n 3, 1) := by decide +kernel
theorem dX9_digest_63 : decode cX9_digest 63 = .ok (.iload_n 3, 1) := by decide +kernel
theorem dX9_digest_64 : decode cX9_digest 64 = .ok (.aload_n 0, 1) := by decide +kernel
theorem dX9_digest_65 : decode cX9_digest 65 = .ok (.getfield 21, 3) := by decide +kernel
theorem dX9_digest_68 : decode cX9_digest 68 = .ok (.getfield 119, 3) := by decide +kernel
theorem dX9_digest_71 : decode cX9_digest 71 = .ok (.if_icmp .ge 16, 3) := by decide +kernel
theorem dX9_digest_74 : decode cX9_digest 74 = .ok (.aload_n 0, 1) := by decide +kernel
theorem dX9_digest_75 : decode cX9_digest 75 = .ok (.lload_n 1, 1) := by decide +kernel
theorem dX9_digest_76 : decode cX9_digest 76 = .ok (.iload_n 3, 1) := by decide +kernel
theorem dX9_digest_77 : decode cX9_digest 77 = .ok (.invokevirtual 320, 3) := by decide +kernel
theorem dX9_digest_80 : decode cX9_digest 80 = .ok (.lstore_n 1, 1) := by decide +kernel
theorem dX9_digest_81 : decode cX9_digest 81 = .ok (.iinc 3 1, 3) := by decide +kernel
theorem dX9_digest_84 : decode cX9_digest 84 = .ok (.goto (-21), 3) := by decide +kernel
theorem dX9_digest_87 : decode cX9_digest 87 = .ok (.iconst 0, 1) := by decide +kernel
theorem dX9_digest_88 : decode cX9_digest 88 = .ok (.istore_n 3, 1) := by decide +kernel
theorem dX9_digest_89 : decode cX9_digest 89 = .ok (.iload_n 3, 1) := by decide +kernel
theorem dX9_digest_90 : decode cX9_digest 90 = .ok (.aload_n 0, 1) := by decide +kernel
theorem dX9_digest_91 : decode cX9_digest 91 = .ok (.getfield 28, 3) := by decide +kernel
theorem dX9_digest_94 : decode cX9_digest 94 = .ok (.getfield 134, 3) := by decide +kernel
theorem dX9_digest_97 : decode cX9_digest 97 = .ok (.if_icmp .ge 16, 3) := by decide +kernel
theorem dX9_digest_100 : decode cX9_digest 100 = .ok (.aload_n 0, 1) := by decide +kernel
theorem dX9_digest_101 : decode cX9_digest 101 = .ok (.lload_n 1, 1) := by decide +kernel
theorem dX9_digest_102 : decode cX9_digest 102 = .ok (.iload_n 3, 1) := by decide +kernel
theorem dX9_digest_103 : decode cX9_digest 103 = .ok (.invokevirtual 323, 3) := by decide +kernel
theorem dX9_digest_106 : decode cX9_digest 106 = .ok (.lstore_n 1, 1) := by decide +kernel
theorem dX9_digest_107 : decode cX9_digest 107 = .ok (.iinc 3 1, 3) := by decide +kernel
theorem dX9_digest_110 : decode cX9_digest 110 = .ok (.goto (-21), 3) := by decide +kernel
theorem dX9_digest_113 : decode cX9_digest 113 = .ok (.ldc2_w 314, 3) := by decide +kernel
theorem dX9_digest_116 : decode cX9_digest 116 = .ok (.lload_n 1, 1) := by decide +kernel
theorem dX9_digest_117 : decode cX9_digest 117 = .ok (.lmul, 1) := by decide +kernel
theorem dX9_digest_118 : decode cX9_digest 118 = .ok (.aload_n 0, 1) := by decide +kernel
theorem dX9_digest_119 : decode cX9_digest 119 = .ok (.invokevirtual 221, 3) := by decide +kernel
theorem dX9_digest_122 : decode cX9_digest 122 = .ok (.i2l, 1) := by decide +kernel
theorem dX9_digest_123 : decode cX9_digest 123 = .ok (.ladd, 1) := by decide +kernel
theorem dX9_digest_124 : decode cX9_digest 124 = .ok (.lstore_n 1, 1) := by decide +kernel
theorem dX9_digest_125 : decode cX9_digest 125 = .ok (.ldc2_w 314, 3) := by decide +kernel
theorem dX9_digest_128 : decode cX9_digest 128 = .ok (.lload_n 1, 1) := by decide +kernel
theorem dX9_digest_129 : decode cX9_digest 129 = .ok (.lmul, 1) := by decide +kernel
theorem dX9_digest_130 : decode cX9_digest 130 = .ok (.aload_n 0, 1) := by decide +kernel
theorem dX9_digest_131 : decode cX9_digest 131 = .ok (.iconst 0, 1) := by decide +kernel
theorem dX9_digest_132 : decode cX9_digest 132 = .ok (.invokevirtual 326, 3) := by decide +kernel
theorem dX9_digest_135 : decode cX9_digest 135 = .ok (.i2l, 1) := by decide +kernel
theorem dX9_digest_136 : decode cX9_digest 136 = .ok (.ladd, 1) := by decide +kernel
theorem dX9_digest_137 : decode cX9_digest 137 = .ok (.lstore_n 1, 1) := by decide +kernel
theorem dX9_digest_138 : decode cX9_digest 138 = .ok (.ldc2_w 314, 3) := by decide +kernel
theorem dX9_digest_141 : decode cX9_digest 141 = .ok (.lload_n 1, 1) := by decide +kernel
theorem dX9_digest_142 : decode cX9_digest 142 = .ok (.lmul, 1) := by decide +kernel
theorem dX9_digest_143 : decode cX9_digest 143 = .ok (.aload_n 0, 1) := by decide +kernel
theorem dX9_digest_144 : decode cX9_digest 144 = .ok (.iconst 1, 1) := by decide +kernel
theorem dX9_digest_145 : decode cX9_digest 145 = .ok (.invokevirtual 326, 3) := by decide +kernel
theorem dX9_digest_148 : decode cX9_digest 148 = .ok (.i2l, 1) := by decide +kernel
theorem dX9_digest_149 : decode cX9_digest 149 = .ok (.ladd, 1) := by decide +kernel
theorem dX9_digest_150 : decode cX9_digest 150 = .ok (.lstore_n 1, 1) := by decide +kernel
theorem dX9_digest_151 : decode cX9_digest 151 = .ok (.ldc2_w 314, 3) := by decide +kernel
theorem dX9_digest_154 : decode cX9_digest 154 = .ok (.lload_n 1, 1) := by decide +kernel
theorem dX9_digest_155 : decode cX9_digest 155 = .ok (.lmul, 1) := by decide +kernel
theorem dX9_digest_156 : decode cX9_digest 156 = .ok (.aload_n 0, 1) := by decide +kernel
theorem dX9_digest_157 : decode cX9_digest 157 = .ok (.iconst 0, 1) := by decide +kernel
theorem dX9_digest_158 : decode cX9_digest 158 = .ok (.invokevirtual 329, 3) := by decide +kernel
theorem dX9_digest_161 : decode cX9_digest 161 = .ok (.i2l, 1) := by decide +kernel
theorem dX9_digest_162 : decode cX9_digest 162 = .ok (.ladd, 1) := by decide +kernel
theorem dX9_digest_163 : decode cX9_digest 163 = .ok (.lstore_n 1, 1) := by decide +kernel
theorem dX9_digest_164 : decode cX9_digest 164 = .ok (.ldc2_w 314, 3) := by decide +kernel
theorem dX9_digest_167 : decode cX9_digest 167 = .ok (.lload_n 1, 1) := by decide +kernel
theorem dX9_digest_168 : decode cX9_digest 168 = .ok (.lmul, 1) := by decide +kernel
theorem dX9_digest_169 : decode cX9_digest 169 = .ok (.aload_n 0, 1) := by decide +kernel
theorem dX9_digest_170 : decode cX9_digest 170 = .ok (.iconst 1, 1) := by decide +kernel
theorem dX9_digest_171 : decode cX9_digest 171 = .ok (.invokevirtual 329, 3) := by decide +kernel
theorem dX9_digest_174 : decode cX9_digest 174 = .ok (.i2l, 1) := by decide +kernel
theorem dX9_digest_175 : decode cX9_digest 175 = .ok (.ladd, 1) := by decide +kernel
theorem dX9_digest_176 : decode cX9_digest 176 = .ok (.lstore_n 1, 1) := by decide +kernel
theorem dX9_digest_177 : decode cX9_digest 177 = .ok (.ldc2_w 314, 3) := by decide +kernel
theorem dX9_digest_180 : decode cX9_digest 180 = .ok (.lload_n 1, 1) := by decide +kernel
theorem dX9_digest_181 : decode cX9_digest 181 = .ok (.lmul, 1) := by decide +kernel
theorem dX9_digest_182 : decode cX9_digest 182 = .ok (.aload_n 0, 1) := by decide +kernel
theorem dX9_digest_183 : decode cX9_digest 183 = .ok (.invokevirtual 332, 3) := by decide +kernel
theorem dX9_digest_186 : decode cX9_digest 186 = .ok (.i2l, 1) := by decide +kernel
theorem dX9_digest_187 : decode cX9_digest 187 = .ok (.ladd, 1) := by decide +kernel
theorem dX9_digest_188 : decode cX9_digest 188 = .ok (.lstore_n 1, 1) := by decide +kernel
theorem dX9_digest_189 : decode cX9_digest 189 = .ok (.ldc2_w 314, 3) := by decide +kernel
theorem dX9_digest_192 : decode cX9_digest 192 = .ok (.lload_n 1, 1) := by decide +kernel
theorem dX9_digest_193 : decode cX9_digest 193 = .ok (.lmul, 1) := by decide +kernel
theorem dX9_digest_194 : decode cX9_digest 194 = .ok (.aload_n 0, 1) := by decide +kernel
theorem dX9_digest_195 : decode cX9_digest 195 = .ok (.bipush 7, 2) := by decide +kernel
theorem dX9_digest_197 : decode cX9_digest 197 = .ok (.bipush 6, 2) := by decide +kernel
theorem dX9_digest_199 : decode cX9_digest 199 = .ok (.iconst 0, 1) := by decide +kernel
theorem dX9_digest_200 : decode cX9_digest 200 = .ok (.invokevirtual 335, 3) := by decide +kernel
theorem dX9_digest_203 : decode cX9_digest 203 = .ok (.i2l, 1) := by decide +kernel
theorem dX9_digest_204 : decode cX9_digest 204 = .ok (.ladd, 1) := by decide +kernel
theorem dX9_digest_205 : decode cX9_digest 205 = .ok (.lstore_n 1, 1) := by decide +kernel
theorem dX9_digest_206 : decode cX9_digest 206 = .ok (.ldc2_w 314, 3) := by decide +kernel
theorem dX9_digest_209 : decode cX9_digest 209 = .ok (.lload_n 1, 1) := by decide +kernel
theorem dX9_digest_210 : decode cX9_digest 210 = .ok (.lmul, 1) := by decide +kernel
theorem dX9_digest_211 : decode cX9_digest 211 = .ok (.aload_n 0, 1) := by decide +kernel
theorem dX9_digest_212 : decode cX9_digest 212 = .ok (.bipush 7, 2) := by decide +kernel
theorem dX9_digest_214 : decode cX9_digest 214 = .ok (.bipush 6, 2) := by decide +kernel
theorem dX9_digest_216 : decode cX9_digest 216 = .ok (.iconst 1, 1) := by decide +kernel
theorem dX9_digest_217 : decode cX9_digest 217 = .ok (.invokevirtual 335, 3) := by decide +kernel
theorem dX9_digest_220 : decode cX9_digest 220 = .ok (.i2l, 1) := by decide +kernel
theorem dX9_digest_221 : decode cX9_digest 221 = .ok (.ladd, 1) := by decide +kernel
theorem dX9_digest_222 : decode cX9_digest 222 = .ok (.lstore_n 1, 1) := by decide +kernel
theorem dX9_digest_223 : decode cX9_digest 223 = .ok (.lload_n 1, 1) := by decide +kernel
theorem dX9_digest_224 : decode cX9_digest 224 = .ok (.lreturn, 1) := by decide +kernel
noncomputable def F9_digest_b113 (a1 : Int64) (M : Mem) : Option (Int64 × Mem) :=
  ((F9_gone M).bind (fun q13 => ((F9_babel (0 : Int32) q13.2).bind (fun q14 => ((F9_babel (1 : Int32) q14.2).bind (fun q15 => ((F9_iron (0 : Int32) q15.2).bind (fun q16 => ((F9_iron (1 : Int32) q16.2).bind (fun q17 => ((F9_never q17.2).bind (fun q18 => ((F9_day (7 : Int32) (6 : Int32) (0 : Int32) q18.2).bind (fun q19 => ((F9_day (7 : Int32) (6 : Int32) (1 : Int32) q19.2).bind (fun q20 => (some ((((31 : Int64) * (((31 : Int64) * (((31 : Int64) * (((31 : Int64) * (((31 : Int64) * (((31 : Int64) * (((31 : Int64) * (((31 : Int64) * a1) + q13.1.toInt64)) + q14.1.toInt64)) + q15.1.toInt64)) + q16.1.toInt64)) + q17.1.toInt64)) + q18.1.toInt64)) + q19.1.toInt64)) + q20.1.toInt64), q20.2))))))))))))))))))
noncomputable def F9_digest_p89 (kh : Int64 → Int32 → Mem → Option (Int64 × Mem)) (kx113 : Int64 → Mem → Option (Int64 × Mem)) (a1 : Int64) (a3 : Int32) (M : Mem) : Option (Int64 × Mem) :=
  (if (M 11 5) ≤ a3 then kx113 a1 M else ((F9_withSaying a1 a3 M).bind (fun q21 => (kh q21.1 (a3 + (1 : Int32)) q21.2))))
noncomputable def F9_digest_h89 (kx113 : Int64 → Mem → Option (Int64 × Mem)) : Nat → Int64 → Int32 → Mem → Option (Int64 × Mem)
  | 0, _, _, _ => none
  | n + 1, a1, a3, M => F9_digest_p89 (F9_digest_h89 kx113 n) kx113 a1 a3 M
noncomputable def F9_digest_b87 (a1 : Int64) (M : Mem) : Option (Int64 × Mem) :=
  (F9_digest_h89 F9_digest_b113 FU) a1 (0 : Int32) M
noncomputable def F9_digest_p63 (kh : Int64 → Int32 → Mem → Option (Int64 × Mem)) (kx87 : Int64 → Mem → Option (Int64 × Mem)) (a1 : Int64) (a3 : Int32) (M : Mem) : Option (Int64 × Mem) :=
  (if (M 6 4) ≤ a3 then kx87 a1 M else ((F9_withWell a1 a3 M).bind (fun q22 => (kh q22.1 (a3 + (1 : Int32)) q22.2))))
noncomputable def F9_digest_h63 (kx87 : Int64 → Mem → Option (Int64 × Mem)) : Nat → Int64 → Int32 → Mem → Option (Int64 × Mem)
  | 0, _, _, _ => none
  | n + 1, a1, a3, M => F9_digest_p63 (F9_digest_h63 kx87 n) kx87 a1 a3 M
noncomputable def F9_digest_b61 (a1 : Int64) (M : Mem) : Option (Int64 × Mem) :=
  (F9_digest_h63 F9_digest_b87 FU) a1 (0 : Int32) M
noncomputable def F9_digest_p33 (kh : Int64 → Int32 → Mem → Option (Int64 × Mem)) (kx61 : Int64 → Mem → Option (Int64 × Mem)) (a1 : Int64) (a3 : Int32) (M : Mem) : Option (Int64 × Mem) :=
  (if (2 : Int32) ≤ a3 then kx61 a1 M else ((F9_fault a3 M).bind (fun q23 => (kh (((31 : Int64) * a1) + q23.toInt64) (a3 + (1 : Int32)) M))))
noncomputable def F9_digest_h33 (kx61 : Int64 → Mem → Option (Int64 × Mem)) : Nat → Int64 → Int32 → Mem → Option (Int64 × Mem)
  | 0, _, _, _ => none
  | n + 1, a1, a3, M => F9_digest_p33 (F9_digest_h33 kx61 n) kx61 a1 a3 M
noncomputable def F9_digest_b31 (a1 : Int64) (M : Mem) : Option (Int64 × Mem) :=
  (F9_digest_h33 F9_digest_b61 FU) a1 (0 : Int32) M
noncomputable def F9_digest_p6 (kh : Int64 → Int32 → Mem → Option (Int64 × Mem)) (kx31 : Int64 → Mem → Option (Int64 × Mem)) (a1 : Int64) (a3 : Int32) (M : Mem) : Option (Int64 × Mem) :=
  (if (8 : Int32) ≤ a3 then kx31 a1 M else ((F9_count a3 M).bind (fun q24 => (kh (((31 : Int64) * a1) + q24.1.toInt64) (a3 + (1 : Int32)) q24.2))))
noncomputable def F9_digest_h6 (kx31 : Int64 → Mem → Option (Int64 × Mem)) : Nat → Int64 → Int32 → Mem → Option (Int64 × Mem)
  | 0, _, _, _ => none
  | n + 1, a1, a3, M => F9_digest_p6 (F9_digest_h6 kx31 n) kx31 a1 a3 M
noncomputable def F9_digest (mc : Mem) : Option (Int64 × Mem) :=
  (F9_digest_h6 F9_digest_b31 FU) (17 : Int64) (0 : Int32) mc
set_option maxHeartbeats 4000000 in
set_option maxRecDepth 100000 in
theorem kX9_digest (l : Launch) (g : GG) (mc mm : Mem) (q : Int64 × Mem) (hF : F9_digest mc = some q) : KL l yX9_digest cX9_digest 4 6 157 g [.ref (g.1 0)] mc mm q.1 (q.2, mm) := by
  intro sz
  refine x_start (Qc := fun z => QL g z q.1 (q.2, mm)) (by decide +kernel) (Nat.le_of_ble_eq_true rfl) ?_ sz
  intro p e s m args below meth c ls Z hr hlk hP hl
  have hx := Z.1.1
  have hb := Z.1.2.1
  have hown := Z.1.2.2.2.1
  have hts := Z.1.2.2.2.2
  have hS : va_S (AA g s.heap.size) s.heap s.heap [] := va_S.rf
  have hl : lv_has ls 4 [(0, .ref (g.1 0))] := hl
  unfold F9_digest at hF
  have hb113 : ∀ (a1 : Int64) (M : Mem), F9_digest_b113 a1 M = some q → ∀ (H : Heap) (locs : List Loc) (ls : Array Slot), lv_has ls 4 [(0, .ref (g.1 0)), (1, .long a1)] → va_P g.2.2.1 vwCl (wL g M mm) H → va_S (AA g s.heap.size) s.heap H locs → W p l e { frames := 6, cells := 0, slots := 0, locals := 157 } s m args below meth c H locs 0 0 (MQ below (QL g s.heap.size q.1 (q.2, mm)) args s 0 0 (AA g s.heap.size)) (F0 m 113 ls []) := by
    intro a1 M hF H locs ls hl hP hS
    unfold F9_digest_b113 at hF
    refine lv_ldc2 (v := (31 : Int64)) hx hb hown (hts _ wd_43_15) dX9_digest_113 ?_
    refine lv_lload_n hx hb dX9_digest_116 rfl (lv_at hl 1 rfl) ?_
    refine lv_lmul hx hb dX9_digest_117 ?_
    refine lv_aload_n hx hb dX9_digest_118 rfl (lv_at hl 0 rfl) ?_
    obtain ⟨q13, hq13, hF⟩ := bd_ok hF
    refine xX9_gone Z hP hS hq13 wd_31_5 hl.1 (Nat.le_of_ble_eq_true rfl) ⟨Nat.le_of_ble_eq_true rfl, Nat.le_of_ble_eq_true rfl⟩ dX9_digest_119 (fun H locs hP hS => ?_)
    refine lv_i2l (v := q13.1.toInt64) hx hb dX9_digest_122 rfl ?_
    refine lv_ladd hx hb dX9_digest_123 ?_
    refine lv_lstore_n (lv' := [(1, .long (((31 : Int64) * a1) + q13.1.toInt64)), (0, .ref (g.1 0))]) hx hb dX9_digest_124 rfl hl (Nat.le_of_ble_eq_true rfl) rfl (fun ls hl => ?_)
    refine lv_ldc2 (v := (31 : Int64)) hx hb hown (hts _ wd_43_15) dX9_digest_125 ?_
    refine lv_lload_n hx hb dX9_digest_128 rfl (lv_at hl 0 rfl) ?_
    refine lv_lmul hx hb dX9_digest_129 ?_
    refine lv_aload_n hx hb dX9_digest_130 rfl (lv_at hl 1 rfl) ?_
    refine lv_iconst (v := (0 : Int32)) hx hb dX9_digest_131 ic_0 ?_
    obtain ⟨q14, hq14, hF⟩ := bd_ok hF
    refine xX9_babel Z hP hS hq14 wd_44_18 hl.1 (Nat.le_of_ble_eq_true rfl) ⟨Nat.le_of_ble_eq_true rfl, Nat.le_of_ble_eq_true rfl⟩ dX9_digest_132 (fun H locs hP hS => ?_)
    refine lv_i2l (v := q14.1.toInt64) hx hb dX9_digest_135 rfl ?_
    refine lv_ladd hx hb dX9_digest_136 ?_
    refine lv_lstore_n (lv' := [(1, .long (((31 : Int64) * (((31 : Int64) * a1) + q13.1.toInt64)) + q14.1.toInt64)), (0, .ref (g.1 0))]) hx hb dX9_digest_137 rfl hl (Nat.le_of_ble_eq_true rfl) rfl (fun ls hl => ?_)
    refine lv_ldc2 (v := (31 : Int64)) hx hb hown (hts _ wd_43_15) dX9_digest_138 ?_
    refine lv_lload_n hx hb dX9_digest_141 rfl (lv_at hl 0 rfl) ?_
    refine lv_lmul hx hb dX9_digest_142 ?_
    refine lv_aload_n hx hb dX9_digest_143 rfl (lv_at hl 1 rfl) ?_
    refine lv_iconst (v := (1 : Int32)) hx hb dX9_digest_144 ic_1 ?_
    obtain ⟨q15, hq15, hF⟩ := bd_ok hF
    refine xX9_babel Z hP hS hq15 wd_44_18 hl.1 (Nat.le_of_ble_eq_true rfl) ⟨Nat.le_of_ble_eq_true rfl, Nat.le_of_ble_eq_true rfl⟩ dX9_digest_145 (fun H locs hP hS => ?_)
    refine lv_i2l (v := q15.1.toInt64) hx hb dX9_digest_148 rfl ?_
    refine lv_ladd hx hb dX9_digest_149 ?_
    refine lv_lstore_n (lv' := [(1, .long (((31 : Int64) * (((31 : Int64) * (((31 : Int64) * a1) + q13.1.toInt64)) + q14.1.toInt64)) + q15.1.toInt64)), (0, .ref (g.1 0))]) hx hb dX9_digest_150 rfl hl (Nat.le_of_ble_eq_true rfl) rfl (fun ls hl => ?_)
    refine lv_ldc2 (v := (31 : Int64)) hx hb hown (hts _ wd_43_15) dX9_digest_151 ?_
    refine lv_lload_n hx hb dX9_digest_154 rfl (lv_at hl 0 rfl) ?_
    refine lv_lmul hx hb dX9_digest_155 ?_
    refine lv_aload_n hx hb dX9_digest_156 rfl (lv_at hl 1 rfl) ?_
    refine lv_iconst (v := (0 : Int32)) hx hb dX9_digest_157 ic_0 ?_
    obtain ⟨q16, hq16, hF⟩ := bd_ok hF
    refine xX9_iron Z hP hS hq16 wd_44_19 hl.1 (Nat.le_of_ble_eq_true rfl) ⟨Nat.le_of_ble_eq_true rfl, Nat.le_of_ble_eq_true rfl⟩ dX9_digest_158 (fun H locs hP hS => ?_)
    refine lv_i2l (v := q16.1.toInt64) hx hb dX9_digest_161 rfl ?_
    refine lv_ladd hx hb dX9_digest_162 ?_
    refine lv_lstore_n (lv' := [(1, .long (((31 : Int64) * (((31 : Int64) * (((31 : Int64) * (((31 : Int64) * a1) + q13.1.toInt64)) + q14.1.toInt64)) + q15.1.toInt64)) + q16.1.toInt64)), (0, .ref (g.1 0))]) hx hb dX9_digest_163 rfl hl (Nat.le_of_ble_eq_true rfl) rfl (fun ls hl => ?_)
    refine lv_ldc2 (v := (31 : Int64)) hx hb hown (hts _ wd_43_15) dX9_digest_164 ?_
    refine lv_lload_n hx hb dX9_digest_167 rfl (lv_at hl 0 rfl) ?_
    refine lv_lmul hx hb dX9_digest_168 ?_
    refine lv_aload_n hx hb dX9_digest_169 rfl (lv_at hl 1 rfl) ?_
    refine lv_iconst (v := (1 : Int32)) hx hb dX9_digest_170 ic_1 ?_
    obtain ⟨q17, hq17, hF⟩ := bd_ok hF
    refine xX9_iron Z hP hS hq17 wd_44_19 hl.1 (Nat.le_of_ble_eq_true rfl) ⟨Nat.le_of_ble_eq_true rfl, Nat.le_of_ble_eq_true rfl⟩ dX9_digest_171 (fun H locs hP hS => ?_)
    refine lv_i2l (v := q17.1.toInt64) hx hb dX9_digest_174 rfl ?_
    refine lv_ladd hx hb dX9_digest_175 ?_
    refine lv_lstore_n (lv' := [(1, .long (((31 : Int64) * (((31 : Int64) * (((31 : Int64) * (((31 : Int64) * (((31 : Int64) * a1) + q13.1.toInt64)) + q14.1.toInt64)) + q15.1.toInt64)) + q16.1.toInt64)) + q17.1.toInt64)), (0, .ref (g.1 0))]) hx hb dX9_digest_176 rfl hl (Nat.le_of_ble_eq_true rfl) rfl (fun ls hl => ?_)
    refine lv_ldc2 (v := (31 : Int64)) hx hb hown (hts _ wd_43_15) dX9_digest_177 ?_
    refine lv_lload_n hx hb dX9_digest_180 rfl (lv_at hl 0 rfl) ?_
    refine lv_lmul hx hb dX9_digest_181 ?_
    refine lv_aload_n hx hb dX9_digest_182 rfl (lv_at hl 1 rfl) ?_
    obtain ⟨q18, hq18, hF⟩ := bd_ok hF
    refine xX9_never Z hP hS hq18 wd_44_20 hl.1 (Nat.le_of_ble_eq_true rfl) ⟨Nat.le_of_ble_eq_true rfl, Nat.le_of_ble_eq_true rfl⟩ dX9_digest_183 (fun H locs hP hS => ?_)
    refine lv_i2l (v := q18.1.toInt64) hx hb dX9_digest_186 rfl ?_
    refine lv_ladd hx hb dX9_digest_187 ?_
    refine lv_lstore_n (lv' := [(1, .long (((31 : Int64) * (((31 : Int64) * (((31 : Int64) * (((31 : Int64) * (((31 : Int64) * (((31 : Int64) * a1) + q13.1.toInt64)) + q14.1.toInt64)) + q15.1.toInt64)) + q16.1.toInt64)) + q17.1.toInt64)) + q18.1.toInt64)), (0, .ref (g.1 0))]) hx hb dX9_digest_188 rfl hl (Nat.le_of_ble_eq_true rfl) rfl (fun ls hl => ?_)
    refine lv_ldc2 (v := (31 : Int64)) hx hb hown (hts _ wd_43_15) dX9_digest_189 ?_
    refine lv_lload_n hx hb dX9_digest_192 rfl (lv_at hl 0 rfl) ?_
    refine lv_lmul hx hb dX9_digest_193 ?_
    refine lv_aload_n hx hb dX9_digest_194 rfl (lv_at hl 1 rfl) ?_
    refine lv_bipush (v := (7 : Int32)) hx hb dX9_digest_195 bp_7 ?_
    refine lv_bipush (v := (6 : Int32)) hx hb dX9_digest_197 bp_6 ?_
    refine lv_iconst (v := (0 : Int32)) hx hb dX9_digest_199 ic_0 ?_
    obtain ⟨q19, hq19, hF⟩ := bd_ok hF
    refine xX9_day Z hP hS hq19 wd_44_21 hl.1 (Nat.le_of_ble_eq_true rfl) ⟨Nat.le_of_ble_eq_true rfl, Nat.le_of_ble_eq_true rfl⟩ dX9_digest_200 (fun H locs hP hS => ?_)
    refine lv_i2l (v := q19.1.toInt64) hx hb dX9_digest_203 rfl ?_
    refine lv_ladd hx hb dX9_digest_204 ?_
    refine lv_lstore_n (lv' := [(1, .long (((31 : Int64) * (((31 : Int64) * (((31 : Int64) * (((31 : Int64) * (((31 : Int64) * (((31 : Int64) * (((31 : Int64) * a1) + q13.1.toInt64)) + q14.1.toInt64)) + q15.1.toInt64)) + q16.1.toInt64)) + q17.1.toInt64)) + q18.1.toInt64)) + q19.1.toInt64)), (0, .ref (g.1 0))]) hx hb dX9_digest_205 rfl hl (Nat.le_of_ble_eq_true rfl) rfl (fun ls hl => ?_)
    refine lv_ldc2 (v := (31 : Int64)) hx hb hown (hts _ wd_43_15) dX9_digest_206 ?_
    refine lv_lload_n hx hb dX9_digest_209 rfl (lv_at hl 0 rfl) ?_
    refine lv_lmul hx hb dX9_digest_210 ?_
    refine lv_aload_n hx hb dX9_digest_211 rfl (lv_at hl 1 rfl) ?_
    refine lv_bipush (v := (7 : Int32)) hx hb dX9_digest_212 bp_7 ?_
    refine lv_bipush (v := (6 : Int32)) hx hb dX9_digest_214 bp_6 ?_
    refine lv_iconst (v := (1 : Int32)) hx hb dX9_digest_216 ic_1 ?_
    obtain ⟨q20, hq20, hF⟩ := bd_ok hF
    refine xX9_day Z hP hS hq20 wd_44_21 hl.1 (Nat.le_of_ble_eq_true rfl) ⟨Nat.le_of_ble_eq_true rfl, Nat.le_of_ble_eq_true rfl⟩ dX9_digest_217 (fun H locs hP hS => ?_)
    refine lv_i2l (v := q20.1.toInt64) hx hb dX9_digest_220 rfl ?_
    refine lv_ladd hx hb dX9_digest_221 ?_
    refine lv_lstore_n (lv' := [(1, .long (((31 : Int64) * (((31 : Int64) * (((31 : Int64) * (((31 : Int64) * (((31 : Int64) * (((31 : Int64) * (((31 : Int64) * (((31 : Int64) * a1) + q13.1.toInt64)) + q14.1.toInt64)) + q15.1.toInt64)) + q16.1.toInt64)) + q17.1.toInt64)) + q18.1.toInt64)) + q19.1.toInt64)) + q20.1.toInt64)), (0, .ref (g.1 0))]) hx hb dX9_digest_222 rfl hl (Nat.le_of_ble_eq_true rfl) rfl (fun ls hl => ?_)
    refine lv_lload_n hx hb dX9_digest_223 rfl (lv_at hl 0 rfl) ?_
    exact ret_JWC Z hr hlk hP hS hF dX9_digest_224
  have hL89 : ∀ (kx113 : Int64 → Mem → Option (Int64 × Mem)), (∀ (a1 : Int64) (M : Mem), kx113 a1 M = some q → ∀ (H : Heap) (locs : List Loc) (ls : Array Slot), lv_has ls 4 [(0, .ref (g.1 0)), (1, .long a1)] → va_P g.2.2.1 vwCl (wL g M mm) H → va_S (AA g s.heap.size) s.heap H locs → W p l e { frames := 6, cells := 0, slots := 0, locals := 157 } s m args below meth c H locs 0 0 (MQ below (QL g s.heap.size q.1 (q.2, mm)) args s 0 0 (AA g s.heap.size)) (F0 m 113 ls [])) → ∀ n : Nat, ∀ (a1 : Int64) (a3 : Int32) (M : Mem), F9_digest_h89 kx113 n a1 a3 M = some q → ∀ (H : Heap) (locs : List Loc) (ls : Array Slot), lv_has ls 4 [(0, .ref (g.1 0)), (1, .long a1), (3, .int a3)] → va_P g.2.2.1 vwCl (wL g M mm) H → va_S (AA g s.heap.size) s.heap H locs → W p l e { frames := 6, cells := 0, slots := 0, locals := 157 } s m args below meth c H locs 0 0 (MQ below (QL g s.heap.size q.1 (q.2, mm)) args s 0 0 (AA g s.heap.size)) (F0 m 89 ls []) := by
    intro kx113 hx113 n
    induction n with
    | zero => intro a1 a3 M hF H locs ls hl hP hS; exact absurd hF (fun z => nomatch (show (none : Option _) = some q from z))
    | succ n ih =>
      generalize hkh : F9_digest_h89 kx113 n = kh at ih
      intro a1 a3 M hF H locs ls hl hP hS
      have hF : F9_digest_p89 (F9_digest_h89 kx113 n) kx113 a1 a3 M = some q := hF
      rw [hkh] at hF
      unfold F9_digest_p89 at hF
      refine lv_iload_n hx hb dX9_digest_89 rfl (lv_at hl 2 rfl) ?_
      refine lv_aload_n hx hb dX9_digest_90 rfl (lv_at hl 0 rfl) ?_
      refine gf9_2 Z hP wd_1_23 dX9_digest_91 ?_
      refine gf5_5N Z hP ck_11 nf_7 dX9_digest_94 ?_
      refine lv_icmp_ge (tgt := 113) hx hb dX9_digest_97 rfl (fun hc => ?_) (fun hc => ?_)
      · have hF := (if_pos hc).symm.trans hF
        exact hx113 _ _ hF _ _ _ (lv_sub hl [0, 1] rfl) hP hS
      · have hF := (if_neg hc).symm.trans hF
        refine lv_aload_n hx hb dX9_digest_100 rfl (lv_at hl 0 rfl) ?_
        refine lv_lload_n hx hb dX9_digest_101 rfl (lv_at hl 1 rfl) ?_
        refine lv_iload_n hx hb dX9_digest_102 rfl (lv_at hl 2 rfl) ?_
        obtain ⟨q21, hq21, hF⟩ := bd_ok hF
        refine xX9_withSaying Z hP hS hq21 wd_44_5 hl.1 (Nat.le_of_ble_eq_true rfl) ⟨Nat.le_of_ble_eq_true rfl, Nat.le_of_ble_eq_true rfl⟩ dX9_digest_103 (fun H locs hP hS => ?_)
        refine lv_lstore_n (lv' := [(1, .long q21.1), (0, .ref (g.1 0)), (3, .int a3)]) hx hb dX9_digest_106 rfl hl (Nat.le_of_ble_eq_true rfl) rfl (fun ls hl => ?_)
        refine lv_iinc (lv' := [(3, .int (a3 + (1 : Int32))), (1, .long q21.1), (0, .ref (g.1 0))]) (v := (a3 + (1 : Int32))) hx hb dX9_digest_107 hl (k := 2) rfl (io_1 _) (Nat.le_of_ble_eq_true rfl) rfl (fun ls hl => ?_)
        refine lv_goto (tgt := 89) hx hb dX9_digest_110 rfl ?_
        exact ih _ _ _ hF _ _ _ (lv_sub hl [2, 1, 0] rfl) hP hS
  have hb87 : ∀ (a1 : Int64) (M : Mem), F9_digest_b87 a1 M = some q → ∀ (H : Heap) (locs : List Loc) (ls : Array Slot), lv_has ls 4 [(0, .ref (g.1 0)), (1, .long a1)] → va_P g.2.2.1 vwCl (wL g M mm) H → va_S (AA g s.heap.size) s.heap H locs → W p l e { frames := 6, cells := 0, slots := 0, locals := 157 } s m args below meth c H locs 0 0 (MQ below (QL g s.heap.size q.1 (q.2, mm)) args s 0 0 (AA g s.heap.size)) (F0 m 87 ls []) := by
    intro a1 M hF H locs ls hl hP hS
    unfold F9_digest_b87 at hF
    refine lv_iconst (v := (0 : Int32)) hx hb dX9_digest_87 ic_0 ?_
    refine lv_istore_n (lv' := [(3, .int (0 : Int32)), (0, .ref (g.1 0)), (1, .long a1)]) hx hb dX9_digest_88 rfl hl (Nat.le_of_ble_eq_true rfl) rfl (fun ls hl => ?_)
    exact (hL89 _ hb113 FU) _ _ _ hF _ _ _ (lv_sub hl [1, 2, 0] rfl) hP hS
  have hL63 : ∀ (kx87 : Int64 → Mem → Option (Int64 × Mem)), (∀ (a1 : Int64) (M : Mem), kx87 a1 M = some q → ∀ (H : Heap) (locs : List Loc) (ls : Array Slot), lv_has ls 4 [(0, .ref (g.1 0)), (1, .long a1)] → va_P g.2.2.1 vwCl (wL g M mm) H → va_S (AA g s.heap.size) s.heap H locs → W p l e { frames := 6, cells := 0, slots := 0, locals := 157 } s m args below meth c H locs 0 0 (MQ below (QL g s.heap.size q.1 (q.2, mm)) args s 0 0 (AA g s.heap.size)) (F0 m 87 ls [])) → ∀ n : Nat, ∀ (a1 : Int64) (a3 : Int32) (M : Mem), F9_digest_h63 kx87 n a1 a3 M = some q → ∀ (H : Heap) (locs : List Loc) (ls : Array Slot), lv_has ls 4 [(0, .ref (g.1 0)), (1, .long a1), (3, .int a3)] → va_P g.2.2.1 vwCl (wL g M mm) H → va_S (AA g s.heap.size) s.heap H locs → W p l e { frames := 6, cells := 0, slots := 0, locals := 157 } s m args below meth c H locs 0 0 (MQ below (QL g s.heap.size q.1 (q.2, mm)) args s 0 0 (AA g s.heap.size)) (F0 m 63 ls []) := by
    intro kx87 hx87 n
    induction n with
    | zero => intro a1 a3 M hF H locs ls hl hP hS; exact absurd hF (fun z => nomatch (show (none : Option _) = some q from z))
    | succ n ih =>
      generalize hkh : F9_digest_h63 kx87 n = kh at ih
      intro a1 a3 M hF H locs ls hl hP hS
      have hF : F9_digest_p63 (F9_digest_h63 kx87 n) kx87 a1 a3 M = some q := hF
      rw [hkh] at hF
      unfold F9_digest_p63 at hF
      refine lv_iload_n hx hb dX9_digest_63 rfl (lv_at hl 2 rfl) ?_
      refine lv_aload_n hx hb dX9_digest_64 rfl (lv_at hl 0 rfl) ?_
      refine gf9_1 Z hP wd_1_19 dX9_digest_65 ?_
      refine gf8_4N Z hP ck_6 nf_2 dX9_digest_68 ?_
      refine lv_icmp_ge (tgt := 87) hx hb dX9_digest_71 rfl (fun hc => ?_) (fun hc => ?_)
      · have hF := (if_pos hc).symm.trans hF
        exact hx87 _ _ hF _ _ _ (lv_sub hl [0, 1] rfl) hP hS
      · have hF := (if_neg hc).symm.trans hF
        refine lv_aload_n hx hb dX9_digest_74 rfl (lv_at hl 0 rfl) ?_
        refine lv_lload_n hx hb dX9_digest_75 rfl (lv_at hl 1 rfl) ?_
        refine lv_iload_n hx hb dX9_digest_76 rfl (lv_at hl 2 rfl) ?_
        obtain ⟨q22, hq22, hF⟩ := bd_ok hF
        refine xX9_withWell Z hP hS hq22 wd_43_18 hl.1 (Nat.le_of_ble_eq_true rfl) ⟨Nat.le_of_ble_eq_true rfl, Nat.le_of_ble_eq_true rfl⟩ dX9_digest_77 (fun H locs hP hS => ?_)
        refine lv_lstore_n (lv' := [(1, .long q22.1), (0, .ref (g.1 0)), (3, .int a3)]) hx hb dX9_digest_80 rfl hl (Nat.le_of_ble_eq_true rfl) rfl (fun ls hl => ?_)
        refine lv_iinc (lv' := [(3, .int (a3 + (1 : Int32))), (1, .long q22.1), (0, .ref (g.1 0))]) (v := (a3 + (1 : Int32))) hx hb dX9_digest_81 hl (k := 2) rfl (io_1 _) (Nat.le_of_ble_eq_true rfl) rfl (fun ls hl => ?_)
        refine lv_goto (tgt := 63) hx hb dX9_digest_84 rfl ?_
        exact ih _ _ _ hF _ _ _ (lv_sub hl [2, 1, 0] rfl) hP hS
  have hb61 : ∀ (a1 : Int64) (M : Mem), F9_digest_b61 a1 M = some q → ∀ (H : Heap) (locs : List Loc) (ls : Array Slot), lv_has ls 4 [(0, .ref (g.1 0)), (1, .long a1)] → va_P g.2.2.1 vwCl (wL g M mm) H → va_S (AA g s.heap.size) s.heap H locs → W p l e { frames := 6, cells := 0, slots := 0, locals := 157 } s m args below meth c H locs 0 0 (MQ below (QL g s.heap.size q.1 (q.2, mm)) args s 0 0 (AA g s.heap.size)) (F0 m 61 ls []) := by
    intro a1 M hF H locs ls hl hP hS
    unfold F9_digest_b61 at hF
    refine lv_iconst (v := (0 : Int32)) hx hb dX9_digest_61 ic_0 ?_
    refine lv_istore_n (lv' := [(3, .int (0 : Int32)), (0, .ref (g.1 0)), (1, .long a1)]) hx hb dX9_digest_62 rfl hl (Nat.le_of_ble_eq_true rfl) rfl (fun ls hl => ?_)
    exact (hL63 _ hb87 FU) _ _ _ hF _ _ _ (lv_sub hl [1, 2, 0] rfl) hP hS
  have hL33 : ∀ (kx61 : Int64 → Mem → Option (Int64 × Mem)), (∀ (a1 : Int64) (M : Mem), kx61 a1 M = some q → ∀ (H : Heap) (locs : List Loc) (ls : Array Slot), lv_has ls 4 [(0, .ref (g.1 0)), (1, .long a1)] → va_P g.2.2.1 vwCl (wL g M mm) H → va_S (AA g s.heap.size) s.heap H locs → W p l e { frames := 6, cells := 0, slots := 0, locals := 157 } s m args below meth c H locs 0 0 (MQ below (QL g s.heap.size q.1 (q.2, mm)) args s 0 0 (AA g s.heap.size)) (F0 m 61 ls [])) → ∀ n : Nat, ∀ (a1 : Int64) (a3 : Int32) (M : Mem), F9_digest_h33 kx61 n a1 a3 M = some q → ∀ (H : Heap) (locs : List Loc) (ls : Array Slot), lv_has ls 4 [(0, .ref (g.1 0)), (1, .long a1), (3, .int a3)] → va_P g.2.2.1 vwCl (wL g M mm) H → va_S (AA g s.heap.size) s.heap H locs → W p l e { frames := 6, cells := 0, slots := 0, locals := 157 } s m args below meth c H locs 0 0 (MQ below (QL g s.heap.size q.1 (q.2, mm)) args s 0 0 (AA g s.heap.size)) (F0 m 33 ls []) := by
    intro kx61 hx61 n
    induction n with
    | zero => intro a1 a3 M hF H locs ls hl hP hS; exact absurd hF (fun z => nomatch (show (none : Option _) = some q from z))
    | succ n ih =>
      generalize hkh : F9_digest_h33 kx61 n = kh at ih
      intro a1 a3 M hF H locs ls hl hP hS
      have hF : F9_digest_p33 (F9_digest_h33 kx61 n) kx61 a1 a3 M = some q := hF
      rw [hkh] at hF
      unfold F9_digest_p33 at hF
      refine lv_iload_n hx hb dX9_digest_33 rfl (lv_at hl 2 rfl) ?_
      refine lv_aload_n hx hb dX9_digest_34 rfl (lv_at hl 0 rfl) ?_
      refine gf9_0 Z hP wd_1_15 dX9_digest_35 ?_
      refine rq_len_22 Z hP dX9_digest_38 ?_
      refine lv_icmp_ge (tgt := 61) hx hb dX9_digest_39 rfl (fun hc => ?_) (fun hc => ?_)
      · have hF := (if_pos hc).symm.trans hF
        exact hx61 _ _ hF _ _ _ (lv_sub hl [0, 1] rfl) hP hS
      · have hF := (if_neg hc).symm.trans hF
        refine lv_ldc2 (v := (31 : Int64)) hx hb hown (hts _ wd_43_15) dX9_digest_42 ?_
        refine lv_lload_n hx hb dX9_digest_45 rfl (lv_at hl 1 rfl) ?_
        refine lv_lmul hx hb dX9_digest_46 ?_
        refine lv_aload_n hx hb dX9_digest_47 rfl (lv_at hl 0 rfl) ?_
        refine lv_iload_n hx hb dX9_digest_48 rfl (lv_at hl 2 rfl) ?_
        obtain ⟨q23, hq23, hF⟩ := bd_ok hF
        refine xX9_fault Z hP hS hq23 wd_43_17 hl.1 (Nat.le_of_ble_eq_true rfl) ⟨Nat.le_of_ble_eq_true rfl, Nat.le_of_ble_eq_true rfl⟩ dX9_digest_49 (fun H locs hP hS => ?_)
        refine lv_i2l (v := q23.toInt64) hx hb dX9_digest_52 rfl ?_
        refine lv_ladd hx hb dX9_digest_53 ?_
        refine lv_lstore_n (lv' := [(1, .long (((31 : Int64) * a1) + q23.toInt64)), (0, .ref (g.1 0)), (3, .int a3)]) hx hb dX9_digest_54 rfl hl (Nat.le_of_ble_eq_true rfl) rfl (fun ls hl => ?_)
        refine lv_iinc (lv' := [(3, .int (a3 + (1 : Int32))), (1, .long (((31 : Int64) * a1) + q23.toInt64)), (0, .ref (g.1 0))]) (v := (a3 + (1 : Int32))) hx hb dX9_digest_55 hl (k := 2) rfl (io_1 _) (Nat.le_of_ble_eq_true rfl) rfl (fun ls hl => ?_)
        refine lv_goto (tgt := 33) hx hb dX9_digest_58 rfl ?_
        exact ih _ _ _ hF _ _ _ (lv_sub hl [2, 1, 0] rfl) hP hS
  have hb31 : ∀ (a1 : Int64) (M : Mem), F9_digest_b31 a1 M = some q → ∀ (H : Heap) (locs : List Loc) (ls : Array Slot), lv_has ls 4 [(0, .ref (g.1 0)), (1, .long a1)] → va_P g.2.2.1 vwCl (wL g M mm) H → va_S (AA g s.heap.size) s.heap H locs → W p l e { frames := 6, cells := 0, slots := 0, locals := 157 } s m args below meth c H locs 0 0 (MQ below (QL g s.heap.size q.1 (q.2, mm)) args s 0 0 (AA g s.heap.size)) (F0 m 31 ls []) := by
    intro a1 M hF H locs ls hl hP hS
    unfold F9_digest_b31 at hF
    refine lv_iconst (v := (0 : Int32)) hx hb dX9_digest_31 ic_0 ?_
    refine lv_istore_n (lv' := [(3, .int (0 : Int32)), (0, .ref (g.1 0)), (1, .long a1)]) hx hb dX9_digest_32 rfl hl (Nat.le_of_ble_eq_true rfl) rfl (fun ls hl => ?_)
    exact (hL33 _ hb61 FU) _ _ _ hF _ _ _ (lv_sub hl [1, 2, 0] rfl) hP hS
  have hL6 : ∀ (kx31 : Int64 → Mem → Option (Int64 × Mem)), (∀ (a1 : Int64) (M : Mem), kx31 a1 M = some q → ∀ (H : Heap) (locs : List Loc) (ls : Array Slot), lv_has ls 4 [(0, .ref (g.1 0)), (1, .long a1)] → va_P g.2.2.1 vwCl (wL g M mm) H → va_S (AA g s.heap.size) s.heap H locs → W p l e { frames := 6, cells := 0, slots := 0, locals := 157 } s m args below meth c H locs 0 0 (MQ below (QL g s.heap.size q.1 (q.2, mm)) args s 0 0 (AA g s.heap.size)) (F0 m 31 ls [])) → ∀ n : Nat, ∀ (a1 : Int64) (a3 : Int32) (M : Mem), F9_digest_h6 kx31 n a1 a3 M = some q → ∀ (H : Heap) (locs : List Loc) (ls : Array Slot), lv_has ls 4 [(0, .ref (g.1 0)), (1, .long a1), (3, .int a3)] → va_P g.2.2.1 vwCl (wL g M mm) H → va_S (AA g s.heap.size) s.heap H locs → W p l e { frames := 6, cells := 0, slots := 0, locals := 157 } s m args below meth c H locs 0 0 (MQ below (QL g s.heap.size q.1 (q.2, mm)) args s 0 0 (AA g s.heap.size)) (F0 m 6 ls []) := by
    intro kx31 hx31 n
    induction n with
    | zero => intro a1 a3 M hF H locs ls hl hP hS; exact absurd hF (fun z => nomatch (show (none : Option _) = some q from z))
    | succ n ih =>
      generalize hkh : F9_digest_h6 kx31 n = kh at ih
      intro a1 a3 M hF H locs ls hl hP hS
      have hF : F9_digest_p6 (F9_digest_h6 kx31 n) kx31 a1 a3 M = some q := hF
      rw [hkh] at hF
      unfold F9_digest_p6 at hF
      refine lv_iload_n hx hb dX9_digest_6 rfl (lv_at hl 2 rfl) ?_
      refine lv_bipush (v := (8 : Int32)) hx hb dX9_digest_7 bp_8 ?_
      refine lv_icmp_ge (tgt := 31) hx hb dX9_digest_9 rfl (fun hc => ?_) (fun hc => ?_)
      · have hF := (if_pos hc).symm.trans hF
        exact hx31 _ _ hF _ _ _ (lv_sub hl [0, 1] rfl) hP hS
      · have hF := (if_neg hc).symm.trans hF
        refine lv_ldc2 (v := (31 : Int64)) hx hb hown (hts _ wd_43_15) dX9_digest_12 ?_
        refine lv_lload_n hx hb dX9_digest_15 rfl (lv_at hl 1 rfl) ?_
        refine lv_lmul hx hb dX9_digest_16 ?_
        refine lv_aload_n hx hb dX9_digest_17 rfl (lv_at hl 0 rfl) ?_
        refine lv_iload_n hx hb dX9_digest_18 rfl (lv_at hl 2 rfl) ?_
        obtain ⟨q24, hq24, hF⟩ := bd_ok hF
        refine xX9_count Z hP hS hq24 wd_43_16 hl.1 (Nat.le_of_ble_eq_true rfl) ⟨Nat.le_of_ble_eq_true rfl, Nat.le_of_ble_eq_true rfl⟩ dX9_digest_19 (fun H locs hP hS => ?_)
        refine lv_i2l (v := q24.1.toInt64) hx hb dX9_digest_22 rfl ?_
        refine lv_ladd hx hb dX9_digest_23 ?_
        refine lv_lstore_n (lv' := [(1, .long (((31 : Int64) * a1) + q24.1.toInt64)), (0, .ref (g.1 0)), (3, .int a3)]) hx hb dX9_digest_24 rfl hl (Nat.le_of_ble_eq_true rfl) rfl (fun ls hl => ?_)
        refine lv_iinc (lv' := [(3, .int (a3 + (1 : Int32))), (1, .long (((31 : Int64) * a1) + q24.1.toInt64)), (0, .ref (g.1 0))]) (v := (a3 + (1 : Int32))) hx hb dX9_digest_25 hl (k := 2) rfl (io_1 _) (Nat.le_of_ble_eq_true rfl) rfl (fun ls hl => ?_)
        refine lv_goto (tgt := 6) hx hb dX9_digest_28 rfl ?_
        exact ih _ _ _ hF _ _ _ (lv_sub hl [2, 1, 0] rfl) hP hS
  refine lv_ldc2 (v := (17 : Int64)) hx hb hown (hts _ wd_43_14) dX9_digest_0 ?_
  refine lv_lstore_n (lv' := [(1, .long (17 : Int64)), (0, .ref (g.1 0))]) hx hb dX9_digest_3 rfl hl (Nat.le_of_ble_eq_true rfl) rfl (fun ls hl => ?_)
  refine lv_iconst (v := (0 : Int32)) hx hb dX9_digest_4 ic_0 ?_
  refine lv_istore_n (lv' := [(3, .int (0 : Int32)), (1, .long (17 : Int64)), (0, .ref (g.1 0))]) hx hb dX9_digest_5 rfl hl (Nat.le_of_ble_eq_true rfl) rfl (fun ls hl => ?_)
  exact (hL6 _ hb31 FU) _ _ _ hF _ _ _ (lv_sub hl [2, 1, 0] rfl) hP hS
theorem xX9_digest {p : Program} {l : Launch} {e : Env} {R : Room} {s : State} {m : MethodId} {args : Array Value} {below : List Frame} {meth : Method} {c : Code} {H : Heap} {locs : List Loc} {Q : State → Prop} {cc : ByteArray} {nL : Nat} {own : String} {g : GG} {pc index : Nat} {ls : Array Slot} {rest : List Value} {mc mm : Mem} (Z : ZZ p s m args c cc nL own g) (hP : va_P g.2.2.1 vwCl (wL g mc mm) H) (hS : va_S (AA g s.heap.size) s.heap H locs) {q : Int64 × Mem} (hq : F9_digest mc = some q) (hlk : Cond.methodLink own index yX9_digest ∈ wsL_law) (hsz : ls.size = nL) (hro : (rest.map fun v => v.category).sum ≤ 8) (hR : 6 + 1 ≤ R.frames ∧ 8 + (4 + 11) + 157 ≤ R.locals) (hdg : decode cc pc = .ok (.invokevirtual index, 3)) (kk : ∀ (H : Heap) (locs : List Loc), va_P g.2.2.1 vwCl (wL g q.2 mm) H → va_S (AA g s.heap.size) s.heap H locs → W p l e R s m args below meth c H locs 0 0 Q (F0 m (pc + 3) ls (.long q.1 :: rest))) : W p l e R s m args below meth c H locs 0 0 Q (F0 m pc ls (.ref (g.1 0) :: rest)) :=
  x_VL Z hP hS (kX9_digest l g mc mm q hq) (isO_w ck_0) (ci := 9) (by decide) rfl rfl mf_X9_digest mv_X9_digest hlk rfl rfl hsz hro hR hdg kk
theorem dX10_in_0 : decode cX10_in 0 = .ok (.lload_n 0, 1) := by decide +kernel
theorem dX10_in_1 : decode cX10_in 1 = .ok (.lload_n 2, 1) := by decide +kernel
theorem dX10_in_2 : decode cX10_in 2 = .ok (.lcmp, 1) := by decide +kernel
theorem dX10_in_3 : decode cX10_in 3 = .ok (.ifCond .lt 14, 3) := by decide +kernel
theorem dX10_in_6 : decode cX10_in 6 = .ok (.lload_n 0, 1) := by decide +kernel
theorem dX10_in_7 : decode cX10_in 7 = .ok (.lload 4, 2) := by decide +kernel
theorem dX10_in_9 : decode cX10_in 9 = .ok (.lcmp, 1) := by decide +kernel
theorem dX10_in_10 : decode cX10_in 10 = .ok (.ifCond .gt 7, 3) := by decide +kernel
theorem dX10_in_13 : decode cX10_in 13 = .ok (.iconst 1, 1) := by decide +kernel
theorem dX10_in_14 : decode cX10_in 14 = .ok (.goto 4, 3) := by decide +kernel
theorem dX10_in_17 : decode cX10_in 17 = .ok (.iconst 0, 1) := by decide +kernel
theorem dX10_in_18 : decode cX10_in 18 = .ok (.ireturn, 1) := by decide +kernel
noncomputable def F10_in_b17 (v0 : Int64) (v2 : Int64) (v4 : Int64) : Option (Int32) :=
  some (0 : Int32)
noncomputable def F10_in (v0 : Int64) (v2 : Int64) (v4 : Int64) : Option (Int32) :=
  (if (lg_cmp v0 v2) < (0 : Int32) then (F10_in_b17 v0 v2 v4) else (if (0 : Int32) < (lg_cmp v0 v4) then (F10_in_b17 v0 v2 v4) else some (1 : Int32)))
set_option maxHeartbeats 4000000 in
set_option maxRecDepth 100000 in
theorem kX10_in (l : Launch) (g : GG) (v0 : Int64) (v2 : Int64) (v4 : Int64) (mc mm : Mem) (q : Int32) (hF : F10_in v0 v2 v4 = some q) : KI l yX10_in cX10_in 6 .boolean 0 0 g [.long v0, .long v2, .long v4] mc mm q (mc, mm) := by
  intro sz
  refine x_start (Qc := fun z => QI g z q (mc, mm)) (by decide +kernel) (Nat.le_of_ble_eq_true rfl) ?_ sz
  intro p e s m args below meth c ls Z hr hlk hP hl
  have hx := Z.1.1
  have hb := Z.1.2.1
  have hown := Z.1.2.2.2.1
  have hts := Z.1.2.2.2.2
  have hS : va_S (AA g s.heap.size) s.heap s.heap [] := va_S.rf
  have hl : lv_has ls 6 [(0, .long v0), (2, .long v2), (4, .long v4)] := hl
  unfold F10_in at hF
  have hb17 : F10_in_b17 v0 v2 v4 = some q → ∀ (H : Heap) (locs : List Loc) (ls : Array Slot), lv_has ls 6 [] → va_P g.2.2.1 vwCl (wL g mc mm) H → va_S (AA g s.heap.size) s.heap H locs → W p l e { frames := 0, cells := 0, slots := 0, locals := 0 } s m args below meth c H locs 0 0 (MQ below (QI g s.heap.size q (mc, mm)) args s 0 0 (AA g s.heap.size)) (F0 m 17 ls []) := by
    intro hF H locs ls hl hP hS
    unfold F10_in_b17 at hF
    refine lv_iconst (v := (0 : Int32)) hx hb dX10_in_17 ic_0 ?_
    exact ret_Z Z hr hlk hP hS (Or.inl rfl) hF dX10_in_18
  refine lv_lload_n hx hb dX10_in_0 rfl (lv_at hl 0 rfl) ?_
  refine lv_lload_n hx hb dX10_in_1 rfl (lv_at hl 1 rfl) ?_
  refine W.lcmp hx hb dX10_in_2 ?_
  refine lv_if_lt (tgt := 17) hx hb dX10_in_3 rfl (fun hc => ?_) (fun hc => ?_)
  · have hF := (if_pos hc).symm.trans hF
    exact hb17  hF _ _ _ (lv_sub hl [] rfl) hP hS
  · have hF := (if_neg hc).symm.trans hF
    refine lv_lload_n hx hb dX10_in_6 rfl (lv_at hl 0 rfl) ?_
    refine lv_lload hx hb dX10_in_7 (lv_at hl 2 rfl) ?_
    refine W.lcmp hx hb dX10_in_9 ?_
    refine lv_if_gt (tgt := 17) hx hb dX10_in_10 rfl (fun hc => ?_) (fun hc => ?_)
    · have hF := (if_pos hc).symm.trans hF
      exact hb17  hF _ _ _ (lv_sub hl [] rfl) hP hS
    · have hF := (if_neg hc).symm.trans hF
      refine lv_iconst (v := (1 : Int32)) hx hb dX10_in_13 ic_1 ?_
      refine lv_goto (tgt := 18) hx hb dX10_in_14 rfl ?_
      exact ret_Z Z hr hlk hP hS (Or.inr rfl) hF dX10_in_18
theorem xX10_in {p : Program} {l : Launch} {e : Env} {R : Room} {s : State} {m : MethodId} {args : Array Value} {below : List Frame} {meth : Method} {c : Code} {H : Heap} {locs : List Loc} {Q : State → Prop} {cc : ByteArray} {nL : Nat} {own : String} {g : GG} {pc index : Nat} {ls : Array Slot} {rest : List Value} {mc mm : Mem} (Z : ZZ p s m args c cc nL own g) (hP : va_P g.2.2.1 vwCl (wL g mc mm) H) (hS : va_S (AA g s.heap.size) s.heap H locs) {v0 : Int64} {v2 : Int64} {v4 : Int64} {q : Int32} (hq : F10_in v0 v2 v4 = some q) (hlk : Cond.methodLink own index yX10_in ∈ wsL_law) (hsz : ls.size = nL) (hro : (rest.map fun v => v.category).sum ≤ 8) (hR : 0 + 1 ≤ R.frames ∧ 8 + (6 + 11) + 0 ≤ R.locals) (hdg : decode cc pc = .ok (.invokestatic index, 3)) (kk : ∀ (H : Heap) (locs : List Loc), va_P g.2.2.1 vwCl (wL g mc mm) H → va_S (AA g s.heap.size) s.heap H locs → W p l e R s m args below meth c H locs 0 0 Q (F0 m (pc + 3) ls (.int q :: rest))) : W p l e R s m args below meth c H locs 0 0 Q (F0 m pc ls (.long v4 :: .long v2 :: .long v0 :: rest)) :=
  x_SI Z hP hS (kX10_in l g v0 v2 v4 mc mm q hq) mf_X10_in wd_13_9 hlk rfl rfl hsz hro hR hdg kk
theorem dX10_no_0 : decode cX10_no 0 = .ok (.ldc2_w 81, 3) := by decide +kernel
theorem dX10_no_3 : decode cX10_no 3 = .ok (.iload_n 0, 1) := by decide +kernel
theorem dX10_no_4 : decode cX10_no 4 = .ok (.i2l, 1) := by decide +kernel
theorem dX10_no_5 : decode cX10_no 5 = .ok (.lsub, 1) := by decide +kernel
theorem dX10_no_6 : decode cX10_no 6 = .ok (.lreturn, 1) := by decide +kernel
noncomputable def F10_no (v0 : Int32) : Option (Int64) :=
  some ((-9223372036854775808 : Int64) - v0.toInt64)
set_option maxHeartbeats 4000000 in
set_option maxRecDepth 100000 in
theorem kX10_no (l : Launch) (g : GG) (v0 : Int32) (mc mm : Mem) (q : Int64) (hF : F10_no v0 = some q) : KL l yX10_no cX10_no 1 0 0 g [.int v0] mc mm q (mc, mm) := by
  intro sz
  refine x_start (Qc := fun z => QL g z q (mc, mm)) (by decide +kernel) (Nat.le_of_ble_eq_true rfl) ?_ sz
  intro p e s m args below meth c ls Z hr hlk hP hl
  have hx := Z.1.1
  have hb := Z.1.2.1
  have hown := Z.1.2.2.2.1
  have hts := Z.1.2.2.2.2
  have hS : va_S (AA g s.heap.size) s.heap s.heap [] := va_S.rf
  have hl : lv_has ls 1 [(0, .int v0)] := hl
  unfold F10_no at hF
  refine lv_ldc2 (v := (-9223372036854775808 : Int64)) hx hb hown (hts _ wd_38_0) dX10_no_0 ?_
  refine lv_iload_n hx hb dX10_no_3 rfl (lv_at hl 0 rfl) ?_
  refine lv_i2l (v := v0.toInt64) hx hb dX10_no_4 rfl ?_
  refine lv_lsub hx hb dX10_no_5 ?_
  exact ret_J Z hr hlk hP hS hF dX10_no_6
theorem xX10_no {p : Program} {l : Launch} {e : Env} {R : Room} {s : State} {m : MethodId} {args : Array Value} {below : List Frame} {meth : Method} {c : Code} {H : Heap} {locs : List Loc} {Q : State → Prop} {cc : ByteArray} {nL : Nat} {own : String} {g : GG} {pc index : Nat} {ls : Array Slot} {rest : List Value} {mc mm : Mem} (Z : ZZ p s m args c cc nL own g) (hP : va_P g.2.2.1 vwCl (wL g mc mm) H) (hS : va_S (AA g s.heap.size) s.heap H locs) {v0 : Int32} {q : Int64} (hq : F10_no v0 = some q) (hlk : Cond.methodLink own index yX10_no ∈ wsL_law) (hsz : ls.size = nL) (hro : (rest.map fun v => v.category).sum ≤ 8) (hR : 0 + 1 ≤ R.frames ∧ 8 + (1 + 11) + 0 ≤ R.locals) (hdg : decode cc pc = .ok (.invokestatic index, 3)) (kk : ∀ (H : Heap) (locs : List Loc), va_P g.2.2.1 vwCl (wL g mc mm) H → va_S (AA g s.heap.size) s.heap H locs → W p l e R s m args below meth c H locs 0 0 Q (F0 m (pc + 3) ls (.long q :: rest))) : W p l e R s m args below meth c H locs 0 0 Q (F0 m pc ls (.int v0 :: rest)) :=
  x_SL Z hP hS (kX10_no l g v0 mc mm q hq) mf_X10_no wd_37_22 hlk rfl rfl hsz hro hR hdg kk
theorem dX10_isTwo_0 : decode cX10_isTwo 0 = .ok (.iload_n 0, 1) := by decide +kernel
theorem dX10_isTwo_1 : decode cX10_isTwo 1 = .ok (.i2l, 1) := by decide +kernel
theorem dX10_isTwo_2 : decode cX10_isTwo 2 = .ok (.lconst 0, 1) := by decide +kernel
theorem dX10_isTwo_3 : decode cX10_isTwo 3 = .ok (.lconst 1, 1) := by decide +kernel
theorem dX10_isTwo_4 : decode cX10_isTwo 4 = .ok (.invokestatic 83, 3) := by decide +kernel
theorem dX10_isTwo_7 : decode cX10_isTwo 7 = .ok (.ireturn, 1) := by decide +kernel
noncomputable def F10_isTwo (v0 : Int32) : Option (Int32) :=
  ((F10_in v0.toInt64 (0 : Int64) (1 : Int64)).bind (fun q2 => (bz q2 (some q2))))
set_option maxHeartbeats 4000000 in
set_option maxRecDepth 100000 in
theorem kX10_isTwo (l : Launch) (g : GG) (v0 : Int32) (mc mm : Mem) (q : Int32) (hF : F10_isTwo v0 = some q) : KI l yX10_isTwo cX10_isTwo 1 .boolean 1 25 g [.int v0] mc mm q (mc, mm) := by
  intro sz
  refine x_start (Qc := fun z => QI g z q (mc, mm)) (by decide +kernel) (Nat.le_of_ble_eq_true rfl) ?_ sz
  intro p e s m args below meth c ls Z hr hlk hP hl
  have hx := Z.1.1
  have hb := Z.1.2.1
  have hown := Z.1.2.2.2.1
  have hts := Z.1.2.2.2.2
  have hS : va_S (AA g s.heap.size) s.heap s.heap [] := va_S.rf
  have hl : lv_has ls 1 [(0, .int v0)] := hl
  unfold F10_isTwo at hF
  refine lv_iload_n hx hb dX10_isTwo_0 rfl (lv_at hl 0 rfl) ?_
  refine lv_i2l (v := v0.toInt64) hx hb dX10_isTwo_1 rfl ?_
  refine lv_lconst (v := (0 : Int64)) hx hb dX10_isTwo_2 lc_0 ?_
  refine lv_lconst (v := (1 : Int64)) hx hb dX10_isTwo_3 lc_1 ?_
  obtain ⟨q2, hq2, hF⟩ := bd_ok hF
  refine xX10_in Z hP hS hq2 wd_13_8 hl.1 (Nat.le_of_ble_eq_true rfl) ⟨Nat.le_of_ble_eq_true rfl, Nat.le_of_ble_eq_true rfl⟩ dX10_isTwo_4 (fun H locs hP hS => ?_)
  obtain ⟨hbz, hF⟩ := bz_ok hF
  exact ret_Z Z hr hlk hP hS hbz hF dX10_isTwo_7
theorem xX10_isTwo {p : Program} {l : Launch} {e : Env} {R : Room} {s : State} {m : MethodId} {args : Array Value} {below : List Frame} {meth : Method} {c : Code} {H : Heap} {locs : List Loc} {Q : State → Prop} {cc : ByteArray} {nL : Nat} {own : String} {g : GG} {pc index : Nat} {ls : Array Slot} {rest : List Value} {mc mm : Mem} (Z : ZZ p s m args c cc nL own g) (hP : va_P g.2.2.1 vwCl (wL g mc mm) H) (hS : va_S (AA g s.heap.size) s.heap H locs) {v0 : Int32} {q : Int32} (hq : F10_isTwo v0 = some q) (hlk : Cond.methodLink own index yX10_isTwo ∈ wsL_law) (hsz : ls.size = nL) (hro : (rest.map fun v => v.category).sum ≤ 8) (hR : 1 + 1 ≤ R.frames ∧ 8 + (1 + 11) + 25 ≤ R.locals) (hdg : decode cc pc = .ok (.invokestatic index, 3)) (kk : ∀ (H : Heap) (locs : List Loc), va_P g.2.2.1 vwCl (wL g mc mm) H → va_S (AA g s.heap.size) s.heap H locs → W p l e R s m args below meth c H locs 0 0 Q (F0 m (pc + 3) ls (.int q :: rest))) : W p l e R s m args below meth c H locs 0 0 Q (F0 m pc ls (.int v0 :: rest)) :=
  x_SI Z hP hS (kX10_isTwo l g v0 mc mm q hq) mf_X10_isTwo wd_13_6 hlk rfl rfl hsz hro hR hdg kk
theorem dX10_isIn_0 : decode cX10_isIn 0 = .ok (.iload_n 0, 1) := by decide +kernel
theorem dX10_isIn_1 : decode cX10_isIn 1 = .ok (.iload_n 1, 1) := by decide +kernel
theorem dX10_isIn_2 : decode cX10_isIn 2 = .ok (.ishr, 1) := by decide +kernel
theorem dX10_isIn_3 : decode cX10_isIn 3 = .ok (.iconst 1, 1) := by decide +kernel
theorem dX10_isIn_4 : decode cX10_isIn 4 = .ok (.iand, 1) := by decide +kernel
theorem dX10_isIn_5 : decode cX10_isIn 5 = .ok (.iconst 1, 1) := by decide +kernel
theorem dX10_isIn_6 : decode cX10_isIn 6 = .ok (.if_icmp .ne 7, 3) := by decide +kernel
theorem dX10_isIn_9 : decode cX10_isIn 9 = .ok (.iconst 1, 1) := by decide +kernel
theorem dX10_isIn_10 : decode cX10_isIn 10 = .ok (.goto 4, 3) := by decide +kernel
theorem dX10_isIn_13 : decode cX10_isIn 13 = .ok (.iconst 0, 1) := by decide +kernel
theorem dX10_isIn_14 : decode cX10_isIn 14 = .ok (.ireturn, 1) := by decide +kernel
noncomputable def F10_isIn (v0 : Int32) (v1 : Int32) : Option (Int32) :=
  (if ((v0 >>> (v1 &&& (31 : Int32))) &&& (1 : Int32)) = (1 : Int32) then some (1 : Int32) else some (0 : Int32))
set_option maxHeartbeats 4000000 in
set_option maxRecDepth 100000 in
theorem kX10_isIn (l : Launch) (g : GG) (v0 : Int32) (v1 : Int32) (mc mm : Mem) (q : Int32) (hF : F10_isIn v0 v1 = some q) : KI l yX10_isIn cX10_isIn 2 .boolean 0 0 g [.int v0, .int v1] mc mm q (mc, mm) := by
  intro sz
  refine x_start (Qc := fun z => QI g z q (mc, mm)) (by decide +kernel) (Nat.le_of_ble_eq_true rfl) ?_ sz
  intro p e s m args below meth c ls Z hr hlk hP hl
  have hx := Z.1.1
  have hb := Z.1.2.1
  have hown := Z.1.2.2.2.1
  have hts := Z.1.2.2.2.2
  have hS : va_S (AA g s.heap.size) s.heap s.heap [] := va_S.rf
  have hl : lv_has ls 2 [(0, .int v0), (1, .int v1)] := hl
  unfold F10_isIn at hF
  refine lv_iload_n hx hb dX10_isIn_0 rfl (lv_at hl 0 rfl) ?_
  refine lv_iload_n hx hb dX10_isIn_1 rfl (lv_at hl 1 rfl) ?_
  refine lv_ishr hx hb dX10_isIn_2 ?_
  refine lv_iconst (v := (1 : Int32)) hx hb dX10_isIn_3 ic_1 ?_
  refine lv_iand hx hb dX10_isIn_4 ?_
  refine lv_iconst (v := (1 : Int32)) hx hb dX10_isIn_5 ic_1 ?_
  refine lv_icmp_ne (tgt := 13) hx hb dX10_isIn_6 rfl (fun hc => ?_) (fun hc => ?_)
  · have hF := (if_neg hc).symm.trans hF
    refine lv_iconst (v := (0 : Int32)) hx hb dX10_isIn_13 ic_0 ?_
    exact ret_Z Z hr hlk hP hS (Or.inl rfl) hF dX10_isIn_14
  · have hF := (if_pos hc).symm.trans hF
    refine lv_iconst (v := (1 : Int32)) hx hb dX10_isIn_9 ic_1 ?_
    refine lv_goto (tgt := 14) hx hb dX10_isIn_10 rfl ?_
    exact ret_Z Z hr hlk hP hS (Or.inr rfl) hF dX10_isIn_14
theorem xX10_isIn {p : Program} {l : Launch} {e : Env} {R : Room} {s : State} {m : MethodId} {args : Array Value} {below : List Frame} {meth : Method} {c : Code} {H : Heap} {locs : List Loc} {Q : State → Prop} {cc : ByteArray} {nL : Nat} {own : String} {g : GG} {pc index : Nat} {ls : Array Slot} {rest : List Value} {mc mm : Mem} (Z : ZZ p s m args c cc nL own g) (hP : va_P g.2.2.1 vwCl (wL g mc mm) H) (hS : va_S (AA g s.heap.size) s.heap H locs) {v0 : Int32} {v1 : Int32} {q : Int32} (hq : F10_isIn v0 v1 = some q) (hlk : Cond.methodLink own index yX10_isIn ∈ wsL_law) (hsz : ls.size = nL) (hro : (rest.map fun v => v.category).sum ≤ 8) (hR : 0 + 1 ≤ R.frames ∧ 8 + (2 + 11) + 0 ≤ R.locals) (hdg : decode cc pc = .ok (.invokestatic index, 3)) (kk : ∀ (H : Heap) (locs : List Loc), va_P g.2.2.1 vwCl (wL g mc mm) H → va_S (AA g s.heap.size) s.heap H locs → W p l e R s m args below meth c H locs 0 0 Q (F0 m (pc + 3) ls (.int q :: rest))) : W p l e R s m args below meth c H locs 0 0 Q (F0 m pc ls (.int v1 :: .int v0 :: rest)) :=
  x_SI Z hP hS (kX10_isIn l g v0 v1 mc mm q hq) mf_X10_isIn wd_23_3 hlk rfl rfl hsz hro hR hdg kk
theorem dX10_ones_0 : decode cX10_ones 0 = .ok (.iconst 0, 1) := by decide +kernel
theorem dX10_ones_1 : decode cX10_ones 1 = .ok (.istore_n 1, 1) := by decide +kernel
theorem dX10_ones_2 : decode cX10_ones 2 = .ok (.iload_n 0, 1) := by decide +kernel
theorem dX10_ones_3 : decode cX10_ones 3 = .ok (.istore_n 2, 1) := by decide +kernel
theorem dX10_ones_4 : decode cX10_ones 4 = .ok (.iload_n 2, 1) := by decide +kernel
theorem dX10_ones_5 : decode cX10_ones 5 = .ok (.ifCond .eq 15, 3) := by decide +kernel
theorem dX10_ones_8 : decode cX10_ones 8 = .ok (.iinc 1 1, 3) := by decide +kernel
theorem dX10_ones_11 : decode cX10_ones 11 = .ok (.iload_n 2, 1) := by decide +kernel
theorem dX10_ones_12 : decode cX10_ones 12 = .ok (.iload_n 2, 1) := by decide +kernel
theorem dX10_ones_13 : decode cX10_ones 13 = .ok (.iconst 1, 1) := by decide +kernel
theorem dX10_ones_14 : decode cX10_ones 14 = .ok (.isub, 1) := by decide +kernel
theorem dX10_ones_15 : decode cX10_ones 15 = .ok (.iand, 1) := by decide +kernel
theorem dX10_ones_16 : decode cX10_ones 16 = .ok (.istore_n 2, 1) := by decide +kernel
theorem dX10_ones_17 : decode cX10_ones 17 = .ok (.goto (-13), 3) := by decide +kernel
theorem dX10_ones_20 : decode cX10_ones 20 = .ok (.iload_n 1, 1) := by decide +kernel
theorem dX10_ones_21 : decode cX10_ones 21 = .ok (.ireturn, 1) := by decide +kernel
noncomputable def F10_ones_p4 (kh : Int32 → Int32 → Option (Int32)) (v0 : Int32) (a1 : Int32) (a2 : Int32) : Option (Int32) :=
  (if a2 = (0 : Int32) then some a1 else kh (a1 + (1 : Int32)) (a2 &&& (a2 - (1 : Int32))))
noncomputable def F10_ones_h4 (v0 : Int32) : Nat → Int32 → Int32 → Option (Int32)
  | 0, _, _ => none
  | n + 1, a1, a2 => F10_ones_p4 (F10_ones_h4 v0 n) v0 a1 a2
noncomputable def F10_ones (v0 : Int32) : Option (Int32) :=
  (F10_ones_h4 v0 FU) (0 : Int32) v0
set_option maxHeartbeats 4000000 in
set_option maxRecDepth 100000 in
theorem kX10_ones (l : Launch) (g : GG) (v0 : Int32) (mc mm : Mem) (q : Int32) (hF : F10_ones v0 = some q) : KI l yX10_ones cX10_ones 3 .int 0 0 g [.int v0] mc mm q (mc, mm) := by
  intro sz
  refine x_start (Qc := fun z => QI g z q (mc, mm)) (by decide +kernel) (Nat.le_of_ble_eq_true rfl) ?_ sz
  intro p e s m args below meth c ls Z hr hlk hP hl
  have hx := Z.1.1
  have hb := Z.1.2.1
  have hown := Z.1.2.2.2.1
  have hts := Z.1.2.2.2.2
  have hS : va_S (AA g s.heap.size) s.heap s.heap [] := va_S.rf
  have hl : lv_has ls 3 [(0, .int v0)] := hl
  unfold F10_ones at hF
  have hL4 : ∀ n : Nat, ∀ (a1 : Int32) (a2 : Int32), F10_ones_h4 v0 n a1 a2 = some q → ∀ (H : Heap) (locs : List Loc) (ls : Array Slot), lv_has ls 3 [(1, .int a1), (2, .int a2)] → va_P g.2.2.1 vwCl (wL g mc mm) H → va_S (AA g s.heap.size) s.heap H locs → W p l e { frames := 0, cells := 0, slots := 0, locals := 0 } s m args below meth c H locs 0 0 (MQ below (QI g s.heap.size q (mc, mm)) args s 0 0 (AA g s.heap.size)) (F0 m 4 ls []) := by
    intro n
    induction n with
    | zero => intro a1 a2 hF H locs ls hl hP hS; exact absurd hF (fun z => nomatch (show (none : Option _) = some q from z))
    | succ n ih =>
      generalize hkh : F10_ones_h4 v0 n = kh at ih
      intro a1 a2 hF H locs ls hl hP hS
      have hF : F10_ones_p4 (F10_ones_h4 v0 n) v0 a1 a2 = some q := hF
      rw [hkh] at hF
      unfold F10_ones_p4 at hF
      refine lv_iload_n hx hb dX10_ones_4 rfl (lv_at hl 1 rfl) ?_
      refine lv_if_eq (tgt := 20) hx hb dX10_ones_5 rfl (fun hc => ?_) (fun hc => ?_)
      · have hF := (if_pos hc).symm.trans hF
        refine lv_iload_n hx hb dX10_ones_20 rfl (lv_at hl 0 rfl) ?_
        exact ret_I Z hr hlk hP hS hF dX10_ones_21
      · have hF := (if_neg hc).symm.trans hF
        refine lv_iinc (lv' := [(1, .int (a1 + (1 : Int32))), (2, .int a2)]) (v := (a1 + (1 : Int32))) hx hb dX10_ones_8 hl (k := 0) rfl (io_1 _) (Nat.le_of_ble_eq_true rfl) rfl (fun ls hl => ?_)
        refine lv_iload_n hx hb dX10_ones_11 rfl (lv_at hl 1 rfl) ?_
        refine lv_iload_n hx hb dX10_ones_12 rfl (lv_at hl 1 rfl) ?_
        refine lv_iconst (v := (1 : Int32)) hx hb dX10_ones_13 ic_1 ?_
        refine lv_isub hx hb dX10_ones_14 ?_
        refine lv_iand hx hb dX10_ones_15 ?_
        refine lv_istore_n (lv' := [(2, .int (a2 &&& (a2 - (1 : Int32)))), (1, .int (a1 + (1 : Int32)))]) hx hb dX10_ones_16 rfl hl (Nat.le_of_ble_eq_true rfl) rfl (fun ls hl => ?_)
        refine lv_goto (tgt := 4) hx hb dX10_ones_17 rfl ?_
        exact ih _ _ hF _ _ _ (lv_sub hl [1, 0] rfl) hP hS
  refine lv_iconst (v := (0 : Int32)) hx hb dX10_ones_0 ic_0 ?_
  refine lv_istore_n (lv' := [(1, .int (0 : Int32)), (0, .int v0)]) hx hb dX10_ones_1 rfl hl (Nat.le_of_ble_eq_true rfl) rfl (fun ls hl => ?_)
  refine lv_iload_n hx hb dX10_ones_2 rfl (lv_at hl 1 rfl) ?_
  refine lv_istore_n (lv' := [(2, .int v0), (1, .int (0 : Int32)), (0, .int v0)]) hx hb dX10_ones_3 rfl hl (Nat.le_of_ble_eq_true rfl) rfl (fun ls hl => ?_)
  exact (hL4 FU) _ _ hF _ _ _ (lv_sub hl [1, 0] rfl) hP hS
theorem xX10_ones {p : Program} {l : Launch} {e : Env} {R : Room} {s : State} {m : MethodId} {args : Array Value} {below : List Frame} {meth : Method} {c : Code} {H : Heap} {locs : List Loc} {Q : State → Prop} {cc : ByteArray} {nL : Nat} {own : String} {g : GG} {pc index : Nat} {ls : Array Slot} {rest : List Value} {mc mm : Mem} (Z : ZZ p s m args c cc nL own g) (hP : va_P g.2.2.1 vwCl (wL g mc mm) H) (hS : va_S (AA g s.heap.size) s.heap H locs) {v0 : Int32} {q : Int32} (hq : F10_ones v0 = some q) (hlk : Cond.methodLink own index yX10_ones ∈ wsL_law) (hsz : ls.size = nL) (hro : (rest.map fun v => v.category).sum ≤ 8) (hR : 0 + 1 ≤ R.frames ∧ 8 + (3 + 11) + 0 ≤ R.locals) (hdg : decode cc pc = .ok (.invokestatic index, 3)) (kk : ∀ (H : Heap) (locs : List Loc), va_P g.2.2.1 vwCl (wL g mc mm) H → va_S (AA g s.heap.size) s.heap H locs → W p l e R s m args below meth c H locs 0 0 Q (F0 m (pc + 3) ls (.int q :: rest))) : W p l e R s m args below meth c H locs 0 0 Q (F0 m pc ls (.int v0 :: rest)) :=
  x_SI Z hP hS (kX10_ones l g v0 mc mm q hq) mf_X10_ones wd_29_11 hlk rfl rfl hsz hro hR hdg kk
theorem dX10_lesser_0 : decode cX10_lesser 0 = .ok (.iload_n 0, 1) := by decide +kernel
theorem dX10_lesser_1 : decode cX10_lesser 1 = .ok (.iload_n 1, 1) := by decide +kernel
theorem dX10_lesser_2 : decode cX10_lesser 2 = .ok (.if_icmp .ge 7, 3) := by decide +kernel
theorem dX10_lesser_5 : decode cX10_lesser 5 = .ok (.iload_n 0, 1) := by decide +kernel
theorem dX10_lesser_6 : decode cX10_lesser 6 = .ok (.goto 4, 3) := by decide +kernel
theorem dX10_lesser_9 : decode cX10_lesser 9 = .ok (.iload_n 1, 1) := by decide +kernel
theorem dX10_lesser_10 : decode cX10_lesser 10 = .ok (.ireturn, 1) := by decide +kernel
noncomputable def F10_lesser (v0 : Int32) (v1 : Int32) : Option (Int32) :=
  (if v1 ≤ v0 then some v1 else some v0)
set_option maxHeartbeats 4000000 in
set_option maxRecDepth 100000 in
theorem kX10_lesser (l : Launch) (g : GG) (v0 : Int32) (v1 : Int32) (mc mm : Mem) (q : Int32) (hF : F10_lesser v0 v1 = some q) : KI l yX10_lesser cX10_lesser 2 .int 0 0 g [.int v0, .int v1] mc mm q (mc, mm) := by
  intro sz
  refine x_start (Qc := fun z => QI g z q (mc, mm)) (by decide +kernel) (Nat.le_of_ble_eq_true rfl) ?_ sz
  intro p e s m args below meth c ls Z hr hlk hP hl
  have hx := Z.1.1
  have hb := Z.1.2.1
  have hown := Z.1.2.2.2.1
  have hts := Z.1.2.2.2.2
  have hS : va_S (AA g s.heap.size) s.heap s.heap [] := va_S.rf
  have hl : lv_has ls 2 [(0, .int v0), (1, .int v1)] := hl
  unfold F10_lesser at hF
  refine lv_iload_n hx hb dX10_lesser_0 rfl (lv_at hl 0 rfl) ?_
  refine lv_iload_n hx hb dX10_lesser_1 rfl (lv_at hl 1 rfl) ?_
  refine lv_icmp_ge (tgt := 9) hx hb dX10_lesser_2 rfl (fun hc => ?_) (fun hc => ?_)
  · have hF := (if_pos hc).symm.trans hF
    refine lv_iload_n hx hb dX10_lesser_9 rfl (lv_at hl 1 rfl) ?_
    exact ret_I Z hr hlk hP hS hF dX10_lesser_10
  · have hF := (if_neg hc).symm.trans hF
    refine lv_iload_n hx hb dX10_lesser_5 rfl (lv_at hl 0 rfl) ?_
    refine lv_goto (tgt := 10) hx hb dX10_lesser_6 rfl ?_
    exact ret_I Z hr hlk hP hS hF dX10_lesser_10
theorem xX10_lesser {p : Program} {l : Launch} {e : Env} {R : Room} {s : State} {m : MethodId} {args : Array Value} {below : List Frame} {meth : Method} {c : Code} {H : Heap} {locs : List Loc} {Q : State → Prop} {cc : ByteArray} {nL : Nat} {own : String} {g : GG} {pc index : Nat} {ls : Array Slot} {rest : List Value} {mc mm : Mem} (Z : ZZ p s m args c cc nL own g) (hP : va_P g.2.2.1 vwCl (wL g mc mm) H) (hS : va_S (AA g s.heap.size) s.heap H locs) {v0 : Int32} {v1 : Int32} {q : Int32} (hq : F10_lesser v0 v1 = some q) (hlk : Cond.methodLink own index yX10_lesser ∈ wsL_law) (hsz : ls.size = nL) (hro : (rest.map fun v => v.category).sum ≤ 8) (hR : 0 + 1 ≤ R.frames ∧ 8 + (2 + 11) + 0 ≤ R.locals) (hdg : decode cc pc = .ok (.invokestatic index, 3)) (kk : ∀ (H : Heap) (locs : List Loc), va_P g.2.2.1 vwCl (wL g mc mm) H → va_S (AA g s.heap.size) s.heap H locs → W p l e R s m args below meth c H locs 0 0 Q (F0 m (pc + 3) ls (.int q :: rest))) : W p l e R s m args below meth c H locs 0 0 Q (F0 m pc ls (.int v1 :: .int v0 :: rest)) :=
  x_SI Z hP hS (kX10_lesser l g v0 v1 mc mm q hq) mf_X10_lesser wd_31_22 hlk rfl rfl hsz hro hR hdg kk
theorem dX10_greater_0 : decode cX10_greater 0 = .ok (.iload_n 0, 1) := by decide +kernel
theorem dX10_greater_1 : decode cX10_greater 1 = .ok (.iload_n 1, 1) := by decide +kernel
theorem dX10_greater_2 : decode cX10_greater 2 = .ok (.if_icmp .le 7, 3) := by decide +kernel
theorem dX10_greater_5 : decode cX10_greater 5 = .ok (.iload_n 0, 1) := by decide +kernel
theorem dX10_greater_6 : decode cX10_greater 6 = .ok (.goto 4, 3) := by decide +kernel
theorem dX10_greater_9 : decode cX10_greater 9 = .ok (.iload_n 1, 1) := by decide +kernel
theorem dX10_greater_10 : decode cX10_greater 10 = .ok (.ireturn, 1) := by decide +kernel
noncomputable def F10_greater (v0 : Int32) (v1 : Int32) : Option (Int32) :=
  (if v0 ≤ v1 then some v1 else some v0)
set_option maxHeartbeats 4000000 in
set_option maxRecDepth 100000 in
theorem kX10_greater (l : Launch) (g : GG) (v0 : Int32) (v1 : Int32) (mc mm : Mem) (q : Int32) (hF : F10_greater v0 v1 = some q) : KI l yX10_greater cX10_greater 2 .int 0 0 g [.int v0, .int v1] mc mm q (mc, mm) := by
  intro sz
  refine x_start (Qc := fun z => QI g z q (mc, mm)) (by decide +kernel) (Nat.le_of_ble_eq_true rfl) ?_ sz
  intro p e s m args below meth c ls Z hr hlk hP hl
  have hx := Z.1.1
  have hb := Z.1.2.1
  have hown := Z.1.2.2.2.1
  have hts := Z.1.2.2.2.2
  have hS : va_S (AA g s.heap.size) s.heap s.heap [] := va_S.rf
  have hl : lv_has ls 2 [(0, .int v0), (1, .int v1)] := hl
  unfold F10_greater at hF
  refine lv_iload_n hx hb dX10_greater_0 rfl (lv_at hl 0 rfl) ?_
  refine lv_iload_n hx hb dX10_greater_1 rfl (lv_at hl 1 rfl) ?_
  refine lv_icmp_le (tgt := 9) hx hb dX10_greater_2 rfl (fun hc => ?_) (fun hc => ?_)
  · have hF := (if_pos hc).symm.trans hF
    refine lv_iload_n hx hb dX10_greater_9 rfl (lv_at hl 1 rfl) ?_
    exact ret_I Z hr hlk hP hS hF dX10_greater_10
  · have hF := (if_neg hc).symm.trans hF
    refine lv_iload_n hx hb dX10_greater_5 rfl (lv_at hl 0 rfl) ?_
    refine lv_goto (tgt := 10) hx hb dX10_greater_6 rfl ?_
    exact ret_I Z hr hlk hP hS hF dX10_greater_10
theorem xX10_greater {p : Program} {l : Launch} {e : Env} {R : Room} {s : State} {m : MethodId} {args : Array Value} {below : List Frame} {meth : Method} {c : Code} {H : Heap} {locs : List Loc} {Q : State → Prop} {cc : ByteArray} {nL : Nat} {own : String} {g : GG} {pc index : Nat} {ls : Array Slot} {rest : List Value} {mc mm : Mem} (Z : ZZ p s m args c cc nL own g) (hP : va_P g.2.2.1 vwCl (wL g mc mm) H) (hS : va_S (AA g s.heap.size) s.heap H locs) {v0 : Int32} {v1 : Int32} {q : Int32} (hq : F10_greater v0 v1 = some q) (hlk : Cond.methodLink own index yX10_greater ∈ wsL_law) (hsz : ls.size = nL) (hro : (rest.map fun v => v.category).sum ≤ 8) (hR : 0 + 1 ≤ R.frames ∧ 8 + (2 + 11) + 0 ≤ R.locals) (hdg : decode cc pc = .ok (.invokestatic index, 3)) (kk : ∀ (H : Heap) (locs : List Loc), va_P g.2.2.1 vwCl (wL g mc mm) H → va_S (AA g s.heap.size) s.heap H locs → W p l e R s m args below meth c H locs 0 0 Q (F0 m (pc + 3) ls (.int q :: rest))) : W p l e R s m args below meth c H locs 0 0 Q (F0 m pc ls (.int v1 :: .int v0 :: rest)) :=
  x_SI Z hP hS (kX10_greater l g v0 v1 mc mm q hq) mf_X10_greater wd_29_14 hlk rfl rfl hsz hro hR hdg kk
theorem dX10_part_0 : decode cX10_part 0 = .ok (.lload_n 0, 1) := by decide +kernel
theorem dX10_part_1 : decode cX10_part 1 = .ok (.lstore 5, 2) := by decide +kernel
theorem dX10_part_3 : decode cX10_part 3 = .ok (.lload_n 2, 1) := by decide +kernel
theorem dX10_part_4 : decode cX10_part 4 = .ok (.lstore 7, 2) := by decide +kernel
theorem dX10_part_6 : decode cX10_part 6 = .ok (.lload 7, 2) := by decide +kernel
theorem dX10_part_8 : decode cX10_part 8 = .ok (.lconst 0, 1) := by decide +kernel
theorem dX10_part_9 : decode cX10_part 9 = .ok (.lcmp, 1) := by decide +kernel
theorem dX10_part_10 : decode cX10_part 10 = .ok (.ifCond .eq 21, 3) := by decide +kernel
theorem dX10_part_13 : decode cX10_part 13 = .ok (.lload 5, 2) := by decide +kernel
theorem dX10_part_15 : decode cX10_part 15 = .ok (.lload 7, 2) := by decide +kernel
theorem dX10_part_17 : decode cX10_part 17 = .ok (.lrem, 1) := by decide +kernel
theorem dX10_part_18 : decode cX10_part 18 = .ok (.lstore 9, 2) := by decide +kernel
theorem dX10_part_20 : decode cX10_part 20 = .ok (.lload 7, 2) := by decide +kernel
theorem dX10_part_22 : decode cX10_part 22 = .ok (.lstore 5, 2) := by decide +kernel
theorem dX10_part_24 : decode cX10_part 24 = .ok (.lload 9, 2) := by decide +kernel
theorem dX10_part_26 : decode cX10_part 26 = .ok (.lstore 7, 2) := by decide +kernel
theorem dX10_part_28 : decode cX10_part 28 = .ok (.goto (-22), 3) := by decide +kernel
theorem dX10_part_31 : decode cX10_part 31 = .ok (.iload 4, 2) := by decide +kernel
theorem dX10_part_33 : decode cX10_part 33 = .ok (.ifCond .ne 7, 3) := by decide +kernel
theorem dX10_part_36 : decode cX10_part 36 = .ok (.lload_n 0, 1) := by decide +kernel
theorem dX10_part_37 : decode cX10_part 37 = .ok (.goto 4, 3) := by decide +kernel
theorem dX10_part_40 : decode cX10_part 40 = .ok (.lload_n 2, 1) := by decide +kernel
theorem dX10_part_41 : decode cX10_part 41 = .ok (.lload 5, 2) := by decide +kernel
theorem dX10_part_43 : decode cX10_part 43 = .ok (.ldiv, 1) := by decide +kernel
theorem dX10_part_44 : decode cX10_part 44 = .ok (.lreturn, 1) := by decide +kernel
noncomputable def F10_part_b31 (v0 : Int64) (v2 : Int64) (v4 : Int32) (a5 : Int64) : Option (Int64) :=
  (if v4 = (0 : Int32) then (nzL a5 (some (v0 / a5))) else (nzL a5 (some (v2 / a5))))
noncomputable def F10_part_p6 (kh : Int64 → Int64 → Option (Int64)) (kx31 : Int64 → Option (Int64)) (v0 : Int64) (v2 : Int64) (v4 : Int32) (a5 : Int64) (a7 : Int64) : Option (Int64) :=
  (if (lg_cmp a7 (0 : Int64)) = (0 : Int32) then kx31 a5 else (nzL a7 (kh a7 (jremL a5 a7))))
noncomputable def F10_part_h6 (kx31 : Int64 → Option (Int64)) (v0 : Int64) (v2 : Int64) (v4 : Int32) : Nat → Int64 → Int64 → Option (Int64)
  | 0, _, _ => none
  | n + 1, a5, a7 => F10_part_p6 (F10_part_h6 kx31 v0 v2 v4 n) kx31 v0 v2 v4 a5 a7
noncomputable def F10_part (v0 : Int64) (v2 : Int64) (v4 : Int32) : Option (Int64) :=
  (F10_part_h6 (F10_part_b31 v0 v2 v4) v0 v2 v4 FU) v0 v2
set_option maxHeartbeats 4000000 in
set_option maxRecDepth 100000 in
theorem kX10_part (l : Launch) (g : GG) (v0 : Int64) (v2 : Int64) (v4 : Int32) (mc mm : Mem) (q : Int64) (hF : F10_part v0 v2 v4 = some q) : KL l yX10_part cX10_part 11 0 0 g [.long v0, .long v2, .int v4] mc mm q (mc, mm) := by
  intro sz
  refine x_start (Qc := fun z => QL g z q (mc, mm)) (by decide +kernel) (Nat.le_of_ble_eq_true rfl) ?_ sz
  intro p e s m args below meth c ls Z hr hlk hP hl
  have hx := Z.1.1
  have hb := Z.1.2.1
  have hown := Z.1.2.2.2.1
  have hts := Z.1.2.2.2.2
  have hS : va_S (AA g s.heap.size) s.heap s.heap [] := va_S.rf
  have hl : lv_has ls 11 [(0, .long v0), (2, .long v2), (4, .int v4)] := hl
  unfold F10_part at hF
  have hb31 : ∀ (a5 : Int64), F10_part_b31 v0 v2 v4 a5 = some q → ∀ (H : Heap) (locs : List Loc) (ls : Array Slot), lv_has ls 11 [(0, .long v0), (2, .long v2), (4, .int v4), (5, .long a5)] → va_P g.2.2.1 vwCl (wL g mc mm) H → va_S (AA g s.heap.size) s.heap H locs → W p l e { frames := 0, cells := 0, slots := 0, locals := 0 } s m args below meth c H locs 0 0 (MQ below (QL g s.heap.size q (mc, mm)) args s 0 0 (AA g s.heap.size)) (F0 m 31 ls []) := by
    intro a5 hF H locs ls hl hP hS
    unfold F10_part_b31 at hF
    refine lv_iload hx hb dX10_part_31 (lv_at hl 2 rfl) ?_
    refine lv_if_ne (tgt := 40) hx hb dX10_part_33 rfl (fun hc => ?_) (fun hc => ?_)
    · have hF := (if_neg hc).symm.trans hF
      refine lv_lload_n hx hb dX10_part_40 rfl (lv_at hl 1 rfl) ?_
      refine lv_lload hx hb dX10_part_41 (lv_at hl 3 rfl) ?_
      obtain ⟨hnz, hF⟩ := nzL_ok hF
      refine lv_ldiv hx hb dX10_part_43 hnz ?_
      exact ret_J Z hr hlk hP hS hF dX10_part_44
    · have hF := (if_pos hc).symm.trans hF
      refine lv_lload_n hx hb dX10_part_36 rfl (lv_at hl 0 rfl) ?_
      refine lv_goto (tgt := 41) hx hb dX10_part_37 rfl ?_
      refine lv_lload hx hb dX10_part_41 (lv_at hl 3 rfl) ?_
      obtain ⟨hnz, hF⟩ := nzL_ok hF
      refine lv_ldiv hx hb dX10_part_43 hnz ?_
      exact ret_J Z hr hlk hP hS hF dX10_part_44
  have hL6 : ∀ (kx31 : Int64 → Option (Int64)), (∀ (a5 : Int64), kx31 a5 = some q → ∀ (H : Heap) (locs : List Loc) (ls : Array Slot), lv_has ls 11 [(0, .long v0), (2, .long v2), (4, .int v4), (5, .long a5)] → va_P g.2.2.1 vwCl (wL g mc mm) H → va_S (AA g s.heap.size) s.heap H locs → W p l e { frames := 0, cells := 0, slots := 0, locals := 0 } s m args below meth c H locs 0 0 (MQ below (QL g s.heap.size q (mc, mm)) args s 0 0 (AA g s.heap.size)) (F0 m 31 ls [])) → ∀ n : Nat, ∀ (a5 : Int64) (a7 : Int64), F10_part_h6 kx31 v0 v2 v4 n a5 a7 = some q → ∀ (H : Heap) (locs : List Loc) (ls : Array Slot), lv_has ls 11 [(0, .long v0), (2, .long v2), (4, .int v4), (5, .long a5), (7, .long a7)] → va_P g.2.2.1 vwCl (wL g mc mm) H → va_S (AA g s.heap.size) s.heap H locs → W p l e { frames := 0, cells := 0, slots := 0, locals := 0 } s m args below meth c H locs 0 0 (MQ below (QL g s.heap.size q (mc, mm)) args s 0 0 (AA g s.heap.size)) (F0 m 6 ls []) := by
    intro kx31 hx31 n
    induction n with
    | zero => intro a5 a7 hF H locs ls hl hP hS; exact absurd hF (fun z => nomatch (show (none : Option _) = some q from z))
    | succ n ih =>
      generalize hkh : F10_part_h6 kx31 v0 v2 v4 n = kh at ih
      intro a5 a7 hF H locs ls hl hP hS
      have hF : F10_part_p6 (F10_part_h6 kx31 v0 v2 v4 n) kx31 v0 v2 v4 a5 a7 = some q := hF
      rw [hkh] at hF
      unfold F10_part_p6 at hF
      refine lv_lload hx hb dX10_part_6 (lv_at hl 4 rfl) ?_
      refine lv_lconst (v := (0 : Int64)) hx hb dX10_part_8 lc_0 ?_
      refine W.lcmp hx hb dX10_part_9 ?_
      refine lv_if_eq (tgt := 31) hx hb dX10_part_10 rfl (fun hc => ?_) (fun hc => ?_)
      · have hF := (if_pos hc).symm.trans hF
        exact hx31 _ hF _ _ _ (lv_sub hl [0, 1, 2, 3] rfl) hP hS
      · have hF := (if_neg hc).symm.trans hF
        refine lv_lload hx hb dX10_part_13 (lv_at hl 3 rfl) ?_
        refine lv_lload hx hb dX10_part_15 (lv_at hl 4 rfl) ?_
        obtain ⟨hnz, hF⟩ := nzL_ok hF
        refine lv_lrem hx hb dX10_part_17 hnz ?_
        refine lv_lstore (lv' := [(9, .long (jremL a5 a7)), (0, .long v0), (2, .long v2), (4, .int v4), (5, .long a5), (7, .long a7)]) hx hb dX10_part_18 hl (Nat.le_of_ble_eq_true rfl) rfl (fun ls hl => ?_)
        refine lv_lload hx hb dX10_part_20 (lv_at hl 5 rfl) ?_
        refine lv_lstore (lv' := [(5, .long a7), (9, .long (jremL a5 a7)), (0, .long v0), (2, .long v2), (4, .int v4), (7, .long a7)]) hx hb dX10_part_22 hl (Nat.le_of_ble_eq_true rfl) rfl (fun ls hl => ?_)
        refine lv_lload hx hb dX10_part_24 (lv_at hl 1 rfl) ?_
        refine lv_lstore (lv' := [(7, .long (jremL a5 a7)), (5, .long a7), (9, .long (jremL a5 a7)), (0, .long v0), (2, .long v2), (4, .int v4)]) hx hb dX10_part_26 hl (Nat.le_of_ble_eq_true rfl) rfl (fun ls hl => ?_)
        refine lv_goto (tgt := 6) hx hb dX10_part_28 rfl ?_
        exact ih _ _ hF _ _ _ (lv_sub hl [3, 4, 5, 1, 0] rfl) hP hS
  refine lv_lload_n hx hb dX10_part_0 rfl (lv_at hl 0 rfl) ?_
  refine lv_lstore (lv' := [(5, .long v0), (0, .long v0), (2, .long v2), (4, .int v4)]) hx hb dX10_part_1 hl (Nat.le_of_ble_eq_true rfl) rfl (fun ls hl => ?_)
  refine lv_lload_n hx hb dX10_part_3 rfl (lv_at hl 2 rfl) ?_
  refine lv_lstore (lv' := [(7, .long v2), (5, .long v0), (0, .long v0), (2, .long v2), (4, .int v4)]) hx hb dX10_part_4 hl (Nat.le_of_ble_eq_true rfl) rfl (fun ls hl => ?_)
  exact (hL6 _ hb31 FU) _ _ hF _ _ _ (lv_sub hl [2, 3, 4, 1, 0] rfl) hP hS
theorem xX10_part {p : Program} {l : Launch} {e : Env} {R : Room} {s : State} {m : MethodId} {args : Array Value} {below : List Frame} {meth : Method} {c : Code} {H : Heap} {locs : List Loc} {Q : State → Prop} {cc : ByteArray} {nL : Nat} {own : String} {g : GG} {pc index : Nat} {ls : Array Slot} {rest : List Value} {mc mm : Mem} (Z : ZZ p s m args c cc nL own g) (hP : va_P g.2.2.1 vwCl (wL g mc mm) H) (hS : va_S (AA g s.heap.size) s.heap H locs) {v0 : Int64} {v2 : Int64} {v4 : Int32} {q : Int64} (hq : F10_part v0 v2 v4 = some q) (hlk : Cond.methodLink own index yX10_part ∈ wsL_law) (hsz : ls.size = nL) (hro : (rest.map fun v => v.category).sum ≤ 8) (hR : 0 + 1 ≤ R.frames ∧ 8 + (11 + 11) + 0 ≤ R.locals) (hdg : decode cc pc = .ok (.invokestatic index, 3)) (kk : ∀ (H : Heap) (locs : List Loc), va_P g.2.2.1 vwCl (wL g mc mm) H → va_S (AA g s.heap.size) s.heap H locs → W p l e R s m args below meth c H locs 0 0 Q (F0 m (pc + 3) ls (.long q :: rest))) : W p l e R s m args below meth c H locs 0 0 Q (F0 m pc ls (.int v4 :: .long v2 :: .long v0 :: rest)) :=
  x_SL Z hP hS (kX10_part l g v0 v2 v4 mc mm q hq) mf_X10_part wd_37_19 hlk rfl rfl hsz hro hR hdg kk

theorem dX4_follow_0 : decode cX4_follow 0 = .ok (.aload_n 0, 1) := by decide +kernel
theorem dX4_follow_1 : decode cX4_follow 1 = .ok (.iconst (-1), 1) := by decide +kernel
theorem dX4_follow_2 : decode cX4_follow 2 = .ok (.putfield 24, 3) := by decide +kernel
theorem dX4_follow_5 : decode cX4_follow 5 = .ok (.aload_n 0, 1) := by decide +kernel
theorem dX4_follow_6 : decode cX4_follow 6 = .ok (.iconst 0, 1) := by decide +kernel
theorem dX4_follow_7 : decode cX4_follow 7 = .ok (.putfield 28, 3) := by decide +kernel
theorem dX4_follow_10 : decode cX4_follow 10 = .ok (.aload_n 0, 1) := by decide +kernel
theorem dX4_follow_11 : decode cX4_follow 11 = .ok (.iconst 0, 1) := by decide +kernel
theorem dX4_follow_12 : decode cX4_follow 12 = .ok (.putfield 31, 3) := by decide +kernel
theorem dX4_follow_15 : decode cX4_follow 15 = .ok (.aload_n 0, 1) := by decide +kernel
theorem dX4_follow_16 : decode cX4_follow 16 = .ok (.aload_n 3, 1) := by decide +kernel
theorem dX4_follow_17 : decode cX4_follow 17 = .ok (.getfield 34, 3) := by decide +kernel
theorem dX4_follow_20 : decode cX4_follow 20 = .ok (.iload 4, 2) := by decide +kernel
theorem dX4_follow_22 : decode cX4_follow 22 = .ok (.iaload, 1) := by decide +kernel
theorem dX4_follow_23 : decode cX4_follow 23 = .ok (.putfield 39, 3) := by decide +kernel
theorem dX4_follow_26 : decode cX4_follow 26 = .ok (.aload_n 0, 1) := by decide +kernel
theorem dX4_follow_27 : decode cX4_follow 27 = .ok (.iconst 0, 1) := by decide +kernel
theorem dX4_follow_28 : decode cX4_follow 28 = .ok (.putfield 42, 3) := by decide +kernel
theorem dX4_follow_31 : decode cX4_follow 31 = .ok (.iconst 0, 1) := by decide +kernel
theorem dX4_follow_32 : decode cX4_follow 32 = .ok (.istore 7, 2) := by decide +kernel
theorem dX4_follow_34 : decode cX4_follow 34 = .ok (.iload 7, 2) := by decide +kernel
theorem dX4_follow_36 : decode cX4_follow 36 = .ok (.bipush 40, 2) := by decide +kernel
theorem dX4_follow_38 : decode cX4_follow 38 = .ok (.if_icmp .ge 225, 3) := by decide +kernel
theorem dX4_follow_41 : decode cX4_follow 41 = .ok (.aload_n 0, 1) := by decide +kernel
theorem dX4_follow_42 : decode cX4_follow 42 = .ok (.getfield 21, 3) := by decide +kernel
theorem dX4_follow_45 : decode cX4_follow 45 = .ok (.iload 7, 2) := by decide +kernel
theorem dX4_follow_47 : decode cX4_follow 47 = .ok (.iconst 0, 1) := by decide +kernel
theorem dX4_follow_48 : decode cX4_follow 48 = .ok (.iastore, 1) := by decide +kernel
theorem dX4_follow_49 : decode cX4_follow 49 = .ok (.iload 7, 2) := by decide +kernel
theorem dX4_follow_51 : decode cX4_follow 51 = .ok (.aload_n 3, 1) := by decide +kernel
theorem dX4_follow_52 : decode cX4_follow 52 = .ok (.getfield 45, 3) := by decide +kernel
theorem dX4_follow_55 : decode cX4_follow 55 = .ok (.iload 4, 2) := by decide +kernel
theorem dX4_follow_57 : decode cX4_follow 57 = .ok (.iaload, 1) := by decide +kernel
theorem dX4_follow_58 : decode cX4_follow 58 = .ok (.if_icmp .ne 35, 3) := by decide +kernel
theorem dX4_follow_61 : decode cX4_follow 61 = .ok (.aload_n 0, 1) := by decide +kernel
theorem dX4_follow_62 : decode cX4_follow 62 = .ok (.aload_n 1, 1) := by decide +kernel
theorem dX4_follow_63 : decode cX4_follow 63 = .ok (.aload_n 2, 1) := by decide +kernel
theorem dX4_follow_64 : decode cX4_follow 64 = .ok (.getfield 48, 3) := by decide +kernel
theorem dX4_follow_67 : decode cX4_follow 67 = .ok (.iload 7, 2) := by decide +kernel
theorem dX4_follow_69 : decode cX4_follow 69 = .ok (.iaload, 1) := by decide +kernel
theorem dX4_follow_70 : decode cX4_follow 70 = .ok (.iload 5, 2) := by decide +kernel
theorem dX4_follow_72 : decode cX4_follow 72 = .ok (.invokevirtual 53, 3) := by decide +kernel
theorem dX4_follow_75 : decode cX4_follow 75 = .ok (.aload_n 0, 1) := by decide +kernel
theorem dX4_follow_76 : decode cX4_follow 76 = .ok (.iload 7, 2) := by decide +kernel
theorem dX4_follow_78 : decode cX4_follow 78 = .ok (.aload_n 1, 1) := by decide +kernel
theorem dX4_follow_79 : decode cX4_follow 79 = .ok (.aload_n 0, 1) := by decide +kernel
theorem dX4_follow_80 : decode cX4_follow 80 = .ok (.getfield 24, 3) := by decide +kernel
theorem dX4_follow_83 : decode cX4_follow 83 = .ok (.invokevirtual 57, 3) := by decide +kernel
theorem dX4_follow_86 : decode cX4_follow 86 = .ok (.iadd, 1) := by decide +kernel
theorem dX4_follow_87 : decode cX4_follow 87 = .ok (.putfield 63, 3) := by decide +kernel
theorem dX4_follow_90 : decode cX4_follow 90 = .ok (.goto 134, 3) := by decide +kernel
theorem dX4_follow_93 : decode cX4_follow 93 = .ok (.aload_n 0, 1) := by decide +kernel
theorem dX4_follow_94 : decode cX4_follow 94 = .ok (.getfield 24, 3) := by decide +kernel
theorem dX4_follow_97 : decode cX4_follow 97 = .ok (.iconst (-1), 1) := by decide +kernel
theorem dX4_follow_98 : decode cX4_follow 98 = .ok (.if_icmp .eq 126, 3) := by decide +kernel
theorem dX4_follow_101 : decode cX4_follow 101 = .ok (.aload_n 0, 1) := by decide +kernel
theorem dX4_follow_102 : decode cX4_follow 102 = .ok (.aload_n 1, 1) := by decide +kernel
theorem dX4_follow_103 : decode cX4_follow 103 = .ok (.aload_n 2, 1) := by decide +kernel
theorem dX4_follow_104 : decode cX4_follow 104 = .ok (.iload 7, 2) := by decide +kernel
theorem dX4_follow_106 : decode cX4_follow 106 = .ok (.invokevirtual 66, 3) := by decide +kernel
theorem dX4_follow_109 : decode cX4_follow 109 = .ok (.istore 8, 2) := by decide +kernel
theorem dX4_follow_111 : decode cX4_follow 111 = .ok (.iload 8, 2) := by decide +kernel
theorem dX4_follow_113 : decode cX4_follow 113 = .ok (.aload_n 0, 1) := by decide +kernel
theorem dX4_follow_114 : decode cX4_follow 114 = .ok (.getfield 24, 3) := by decide +kernel
theorem dX4_follow_117 : decode cX4_follow 117 = .ok (.if_icmp .ne 12, 3) := by decide +kernel
theorem dX4_follow_120 : decode cX4_follow 120 = .ok (.iload 7, 2) := by decide +kernel
theorem dX4_follow_122 : decode cX4_follow 122 = .ok (.aload_n 0, 1) := by decide +kernel
theorem dX4_follow_123 : decode cX4_follow 123 = .ok (.getfield 63, 3) := by decide +kernel
theorem dX4_follow_126 : decode cX4_follow 126 = .ok (.if_icmp .ne 7, 3) := by decide +kernel
theorem dX4_follow_129 : decode cX4_follow 129 = .ok (.iconst 1, 1) := by decide +kernel
theorem dX4_follow_130 : decode cX4_follow 130 = .ok (.goto 4, 3) := by decide +kernel
theorem dX4_follow_133 : decode cX4_follow 133 = .ok (.iconst 0, 1) := by decide +kernel
theorem dX4_follow_134 : decode cX4_follow 134 = .ok (.istore 9, 2) := by decide +kernel
theorem dX4_follow_136 : decode cX4_follow 136 = .ok (.iload 8, 2) := by decide +kernel
theorem dX4_follow_138 : decode cX4_follow 138 = .ok (.aload_n 0, 1) := by decide +kernel
theorem dX4_follow_139 : decode cX4_follow 139 = .ok (.getfield 24, 3) := by decide +kernel
theorem dX4_follow_142 : decode cX4_follow 142 = .ok (.if_icmp .eq 62, 3) := by decide +kernel
theorem dX4_follow_145 : decode cX4_follow 145 = .ok (.aload_n 0, 1) := by decide +kernel
theorem dX4_follow_146 : decode cX4_follow 146 = .ok (.iload 8, 2) := by decide +kernel
theorem dX4_follow_148 : decode cX4_follow 148 = .ok (.iload 8, 2) := by decide +kernel
theorem dX4_follow_150 : decode cX4_follow 150 = .ok (.iconst (-1), 1) := by decide +kernel
theorem dX4_follow_151 : decode cX4_follow 151 = .ok (.if_icmp .eq 18, 3) := by decide +kernel
theorem dX4_follow_154 : decode cX4_follow 154 = .ok (.aload_n 1, 1) := by decide +kernel
theorem dX4_follow_155 : decode cX4_follow 155 = .ok (.getfield 70, 3) := by decide +kernel
theorem dX4_follow_158 : decode cX4_follow 158 = .ok (.iload 8, 2) := by decide +kernel
theorem dX4_follow_160 : decode cX4_follow 160 = .ok (.iaload, 1) := by decide +kernel
theorem dX4_follow_161 : decode cX4_follow 161 = .ok (.iconst 1, 1) := by decide +kernel
theorem dX4_follow_162 : decode cX4_follow 162 = .ok (.if_icmp .ne 7, 3) := by decide +kernel
theorem dX4_follow_165 : decode cX4_follow 165 = .ok (.iconst 1, 1) := by decide +kernel
theorem dX4_follow_166 : decode cX4_follow 166 = .ok (.goto 4, 3) := by decide +kernel
theorem dX4_follow_169 : decode cX4_follow 169 = .ok (.iconst 0, 1) := by decide +kernel
theorem dX4_follow_170 : decode cX4_follow 170 = .ok (.iload 6, 2) := by decide +kernel
theorem dX4_follow_172 : decode cX4_follow 172 = .ok (.iconst 1, 1) := by decide +kernel
theorem dX4_follow_173 : decode cX4_follow 173 = .ok (.if_icmp .ne 7, 3) := by decide +kernel
theorem dX4_follow_176 : decode cX4_follow 176 = .ok (.iconst 1, 1) := by decide +kernel
theorem dX4_follow_177 : decode cX4_follow 177 = .ok (.goto 4, 3) := by decide +kernel
theorem dX4_follow_180 : decode cX4_follow 180 = .ok (.iconst 0, 1) := by decide +kernel
theorem dX4_follow_181 : decode cX4_follow 181 = .ok (.invokevirtual 73, 3) := by decide +kernel
theorem dX4_follow_184 : decode cX4_follow 184 = .ok (.aload_n 0, 1) := by decide +kernel
theorem dX4_follow_185 : decode cX4_follow 185 = .ok (.getfield 21, 3) := by decide +kernel
theorem dX4_follow_188 : decode cX4_follow 188 = .ok (.iload 7, 2) := by decide +kernel
theorem dX4_follow_190 : decode cX4_follow 190 = .ok (.aload_n 0, 1) := by decide +kernel
theorem dX4_follow_191 : decode cX4_follow 191 = .ok (.getfield 24, 3) := by decide +kernel
theorem dX4_follow_194 : decode cX4_follow 194 = .ok (.iconst (-1), 1) := by decide +kernel
theorem dX4_follow_195 : decode cX4_follow 195 = .ok (.if_icmp .ne 7, 3) := by decide +kernel
theorem dX4_follow_198 : decode cX4_follow 198 = .ok (.iconst 0, 1) := by decide +kernel
theorem dX4_follow_199 : decode cX4_follow 199 = .ok (.goto 4, 3) := by decide +kernel
theorem dX4_follow_202 : decode cX4_follow 202 = .ok (.iconst 1, 1) := by decide +kernel
theorem dX4_follow_203 : decode cX4_follow 203 = .ok (.iastore, 1) := by decide +kernel
theorem dX4_follow_204 : decode cX4_follow 204 = .ok (.iload 9, 2) := by decide +kernel
theorem dX4_follow_206 : decode cX4_follow 206 = .ok (.ifCond .eq 18, 3) := by decide +kernel
theorem dX4_follow_209 : decode cX4_follow 209 = .ok (.aload_n 0, 1) := by decide +kernel
theorem dX4_follow_210 : decode cX4_follow 210 = .ok (.iload 7, 2) := by decide +kernel
theorem dX4_follow_212 : decode cX4_follow 212 = .ok (.aload_n 1, 1) := by decide +kernel
theorem dX4_follow_213 : decode cX4_follow 213 = .ok (.aload_n 0, 1) := by decide +kernel
theorem dX4_follow_214 : decode cX4_follow 214 = .ok (.getfield 24, 3) := by decide +kernel
theorem dX4_follow_217 : decode cX4_follow 217 = .ok (.invokevirtual 57, 3) := by decide +kernel
theorem dX4_follow_220 : decode cX4_follow 220 = .ok (.iadd, 1) := by decide +kernel
theorem dX4_follow_221 : decode cX4_follow 221 = .ok (.putfield 63, 3) := by decide +kernel
theorem dX4_follow_224 : decode cX4_follow 224 = .ok (.aload_n 0, 1) := by decide +kernel
theorem dX4_follow_225 : decode cX4_follow 225 = .ok (.getfield 9, 3) := by decide +kernel
theorem dX4_follow_228 : decode cX4_follow 228 = .ok (.iload 7, 2) := by decide +kernel
theorem dX4_follow_230 : decode cX4_follow 230 = .ok (.aload_n 0, 1) := by decide +kernel
theorem dX4_follow_231 : decode cX4_follow 231 = .ok (.getfield 24, 3) := by decide +kernel
theorem dX4_follow_234 : decode cX4_follow 234 = .ok (.iastore, 1) := by decide +kernel
theorem dX4_follow_235 : decode cX4_follow 235 = .ok (.aload_n 0, 1) := by decide +kernel
theorem dX4_follow_236 : decode cX4_follow 236 = .ok (.getfield 15, 3) := by decide +kernel
theorem dX4_follow_239 : decode cX4_follow 239 = .ok (.iload 7, 2) := by decide +kernel
theorem dX4_follow_241 : decode cX4_follow 241 = .ok (.aload_n 0, 1) := by decide +kernel
theorem dX4_follow_242 : decode cX4_follow 242 = .ok (.getfield 31, 3) := by decide +kernel
theorem dX4_follow_245 : decode cX4_follow 245 = .ok (.iastore, 1) := by decide +kernel
theorem dX4_follow_246 : decode cX4_follow 246 = .ok (.aload_n 0, 1) := by decide +kernel
theorem dX4_follow_247 : decode cX4_follow 247 = .ok (.getfield 18, 3) := by decide +kernel
theorem dX4_follow_250 : decode cX4_follow 250 = .ok (.iload 7, 2) := by decide +kernel
theorem dX4_follow_252 : decode cX4_follow 252 = .ok (.aload_n 0, 1) := by decide +kernel
theorem dX4_follow_253 : decode cX4_follow 253 = .ok (.getfield 39, 3) := by decide +kernel
theorem dX4_follow_256 : decode cX4_follow 256 = .ok (.iastore, 1) := by decide +kernel
theorem dX4_follow_257 : decode cX4_follow 257 = .ok (.iinc 7 1, 3) := by decide +kernel
theorem dX4_follow_260 : decode cX4_follow 260 = .ok (.goto (-226), 3) := by decide +kernel
theorem dX4_follow_263 : decode cX4_follow 263 = .ok (.return_, 1) := by decide +kernel
noncomputable def F4_follow_b224 (kh : Int32 → Mem → Option (Mem)) (v0 : Nat) (v1 : Nat) (v2 : Nat) (v3 : Nat) (v4 : Int32) (v5 : Int32) (v6 : Int32) (a7 : Int32) (M : Mem) : Option (Mem) :=
  (ck a7 40 (lt (mset M (v0 + 1) a7.toNatClampNeg (M v0 5)) (fun M20 => (ck a7 40 (lt (mset M20 (v0 + 2) a7.toNatClampNeg (M20 v0 8)) (fun M22 => (ck a7 40 (kh (a7 + (1 : Int32)) (mset M22 (v0 + 3) a7.toNatClampNeg (M22 v0 9))))))))))
noncomputable def F4_follow_b204 (kh : Int32 → Mem → Option (Mem)) (v0 : Nat) (v1 : Nat) (v2 : Nat) (v3 : Nat) (v4 : Int32) (v5 : Int32) (v6 : Int32) (a7 : Int32) (a9 : Int32) (M : Mem) : Option (Mem) :=
  (if a9 = (0 : Int32) then (F4_follow_b224 kh v0 v1 v2 v3 v4 v5 v6) a7 M else ((F8_stay v1 (M v0 5) M).bind (fun q24 => ((F4_follow_b224 kh v0 v1 v2 v3 v4 v5 v6) a7 (mset M v0 6 (a7 + q24))))))
noncomputable def F4_follow_b203 (kh : Int32 → Mem → Option (Mem)) (v0 : Nat) (v1 : Nat) (v2 : Nat) (v3 : Nat) (v4 : Int32) (v5 : Int32) (v6 : Int32) (a7 : Int32) (a9 : Int32) (s0 : Nat) (s1 : Int32) (s2 : Int32) (M : Mem) : Option (Mem) :=
  (ck s1 40 ((F4_follow_b204 kh v0 v1 v2 v3 v4 v5 v6) a7 a9 (mset M s0 s1.toNatClampNeg s2)))
noncomputable def F4_follow_b181 (kh : Int32 → Mem → Option (Mem)) (v0 : Nat) (v1 : Nat) (v2 : Nat) (v3 : Nat) (v4 : Int32) (v5 : Int32) (v6 : Int32) (a7 : Int32) (a9 : Int32) (s0 : Nat) (s1 : Int32) (s2 : Int32) (s3 : Int32) (M : Mem) : Option (Mem) :=
  ((F4_come s0 s1 s2 s3 M).bind (fun q26 => (if (q26 v0 5) = (-1 : Int32) then (F4_follow_b203 kh v0 v1 v2 v3 v4 v5 v6) a7 a9 (v0 + 4) a7 (0 : Int32) q26 else (F4_follow_b203 kh v0 v1 v2 v3 v4 v5 v6) a7 a9 (v0 + 4) a7 (1 : Int32) q26)))
noncomputable def F4_follow_b170 (kh : Int32 → Mem → Option (Mem)) (v0 : Nat) (v1 : Nat) (v2 : Nat) (v3 : Nat) (v4 : Int32) (v5 : Int32) (v6 : Int32) (a7 : Int32) (a9 : Int32) (s0 : Nat) (s1 : Int32) (s2 : Int32) (M : Mem) : Option (Mem) :=
  (if v6 = (1 : Int32) then (F4_follow_b181 kh v0 v1 v2 v3 v4 v5 v6) a7 a9 s0 s1 s2 (1 : Int32) M else (F4_follow_b181 kh v0 v1 v2 v3 v4 v5 v6) a7 a9 s0 s1 s2 (0 : Int32) M)
noncomputable def F4_follow_b169 (kh : Int32 → Mem → Option (Mem)) (v0 : Nat) (v1 : Nat) (v2 : Nat) (v3 : Nat) (v4 : Int32) (v5 : Int32) (v6 : Int32) (a7 : Int32) (a9 : Int32) (s0 : Nat) (s1 : Int32) (M : Mem) : Option (Mem) :=
  (F4_follow_b170 kh v0 v1 v2 v3 v4 v5 v6) a7 a9 s0 s1 (0 : Int32) M
noncomputable def F4_follow_b134 (kh : Int32 → Mem → Option (Mem)) (v0 : Nat) (v1 : Nat) (v2 : Nat) (v3 : Nat) (v4 : Int32) (v5 : Int32) (v6 : Int32) (a7 : Int32) (a8 : Int32) (s0 : Int32) (M : Mem) : Option (Mem) :=
  (if a8 = (M v0 5) then (F4_follow_b204 kh v0 v1 v2 v3 v4 v5 v6) a7 s0 M else (if a8 = (-1 : Int32) then (F4_follow_b169 kh v0 v1 v2 v3 v4 v5 v6) a7 s0 v0 a8 M else (ck a8 8 (if (M (v1 + 1) a8.toNatClampNeg) = (1 : Int32) then (F4_follow_b170 kh v0 v1 v2 v3 v4 v5 v6) a7 s0 v0 a8 (1 : Int32) M else (F4_follow_b169 kh v0 v1 v2 v3 v4 v5 v6) a7 s0 v0 a8 M))))
noncomputable def F4_follow_b129 (kh : Int32 → Mem → Option (Mem)) (v0 : Nat) (v1 : Nat) (v2 : Nat) (v3 : Nat) (v4 : Int32) (v5 : Int32) (v6 : Int32) (a7 : Int32) (a8 : Int32) (M : Mem) : Option (Mem) :=
  (F4_follow_b134 kh v0 v1 v2 v3 v4 v5 v6) a7 a8 (1 : Int32) M
noncomputable def F4_follow_p34 (kh : Int32 → Mem → Option (Mem)) (v0 : Nat) (v1 : Nat) (v2 : Nat) (v3 : Nat) (v4 : Int32) (v5 : Int32) (v6 : Int32) (a7 : Int32) (M : Mem) : Option (Mem) :=
  (if (40 : Int32) ≤ a7 then some M else (ck a7 40 (lt (mset M (v0 + 4) a7.toNatClampNeg (0 : Int32)) (fun M29 => (ck v4 8 (if a7 = (M29 (v3 + 1) v4.toNatClampNeg) then (ck a7 40 ((F4_begin v0 v1 (M29 (v2 + 2) a7.toNatClampNeg) v5 M29).bind (fun q33 => ((F8_stay v1 (q33 v0 5) q33).bind (fun q34 => ((F4_follow_b224 kh v0 v1 v2 v3 v4 v5 v6) a7 (mset q33 v0 6 (a7 + q34)))))))) else (if (M29 v0 5) = (-1 : Int32) then (F4_follow_b224 kh v0 v1 v2 v3 v4 v5 v6) a7 M29 else ((F4_next v0 v1 v2 a7 M29).bind (fun q31 => (if q31 = (M29 v0 5) then (if a7 = (M29 v0 6) then (F4_follow_b129 kh v0 v1 v2 v3 v4 v5 v6) a7 q31 M29 else (F4_follow_b134 kh v0 v1 v2 v3 v4 v5 v6) a7 q31 (0 : Int32) M29) else (F4_follow_b129 kh v0 v1 v2 v3 v4 v5 v6) a7 q31 M29))))))))))
noncomputable def F4_follow_h34 (v0 : Nat) (v1 : Nat) (v2 : Nat) (v3 : Nat) (v4 : Int32) (v5 : Int32) (v6 : Int32) : Nat → Int32 → Mem → Option (Mem)
  | 0, _, _ => none
  | n + 1, a7, M => F4_follow_p34 (F4_follow_h34 v0 v1 v2 v3 v4 v5 v6 n) v0 v1 v2 v3 v4 v5 v6 a7 M
noncomputable def F4_follow (v0 : Nat) (v1 : Nat) (v2 : Nat) (v3 : Nat) (v4 : Int32) (v5 : Int32) (v6 : Int32) (mc : Mem) : Option (Mem) :=
  (lt (mset (mset (mset mc v0 5 (-1 : Int32)) v0 7 (0 : Int32)) v0 8 (0 : Int32)) (fun M35 => (ck v4 8 ((F4_follow_h34 v0 v1 v2 v3 v4 v5 v6 FU) (0 : Int32) (mset (mset M35 v0 9 (M35 (v3 + 4) v4.toNatClampNeg)) v0 4 (0 : Int32))))))
set_option maxHeartbeats 4000000 in
set_option maxRecDepth 100000 in
theorem kX4_follow (l : Launch) (g : GG) (v0 : Nat) (v1 : Nat) (v2 : Nat) (v3 : Nat) (v4 : Int32) (v5 : Int32) (v6 : Int32) (h0 : isO 4 v0) (h1 : isO 8 v1) (h2 : isO 3 v2) (h3 : isO 5 v3) (mc mm : Mem) (q : Mem) (hF : F4_follow v0 v1 v2 v3 v4 v5 v6 mc = some q) : KV l yX4_follow cX4_follow 10 1 27 g [.ref (g.1 v0), .ref (g.1 v1), .ref (g.1 v2), .ref (g.1 v3), .int v4, .int v5, .int v6] mc mm (q, mm) := by
  intro sz
  refine x_start (Qc := fun z => QV g z (q, mm)) (by decide +kernel) (Nat.le_of_ble_eq_true rfl) ?_ sz
  intro p e s m args below meth c ls Z hr hlk hP hl
  have hx := Z.1.1
  have hb := Z.1.2.1
  have hown := Z.1.2.2.2.1
  have hts := Z.1.2.2.2.2
  have hS : va_S (AA g s.heap.size) s.heap s.heap [] := va_S.rf
  have hl : lv_has ls 10 [(0, .ref (g.1 v0)), (1, .ref (g.1 v1)), (2, .ref (g.1 v2)), (3, .ref (g.1 v3)), (4, .int v4), (5, .int v5), (6, .int v6)] := hl
  unfold F4_follow at hF
  have hL34 : ∀ n : Nat, ∀ (a7 : Int32) (M : Mem), F4_follow_h34 v0 v1 v2 v3 v4 v5 v6 n a7 M = some q → ∀ (H : Heap) (locs : List Loc) (ls : Array Slot), lv_has ls 10 [(0, .ref (g.1 v0)), (1, .ref (g.1 v1)), (2, .ref (g.1 v2)), (3, .ref (g.1 v3)), (4, .int v4), (5, .int v5), (6, .int v6), (7, .int a7)] → va_P g.2.2.1 vwCl (wL g M mm) H → va_S (AA g s.heap.size) s.heap H locs → W p l e { frames := 1, cells := 0, slots := 0, locals := 27 } s m args below meth c H locs 0 0 (MQ below (QV g s.heap.size (q, mm)) args s 0 0 (AA g s.heap.size)) (F0 m 34 ls []) := by
    intro n
    induction n with
    | zero => intro a7 M hF H locs ls hl hP hS; exact absurd hF (fun z => nomatch (show (none : Option _) = some q from z))
    | succ n ih =>
      generalize hkh : F4_follow_h34 v0 v1 v2 v3 v4 v5 v6 n = kh at ih
      have hb224 : ∀ (a7 : Int32) (M : Mem), F4_follow_b224 kh v0 v1 v2 v3 v4 v5 v6 a7 M = some q → ∀ (H : Heap) (locs : List Loc) (ls : Array Slot), lv_has ls 10 [(0, .ref (g.1 v0)), (1, .ref (g.1 v1)), (2, .ref (g.1 v2)), (3, .ref (g.1 v3)), (4, .int v4), (5, .int v5), (6, .int v6), (7, .int a7)] → va_P g.2.2.1 vwCl (wL g M mm) H → va_S (AA g s.heap.size) s.heap H locs → W p l e { frames := 1, cells := 0, slots := 0, locals := 27 } s m args below meth c H locs 0 0 (MQ below (QV g s.heap.size (q, mm)) args s 0 0 (AA g s.heap.size)) (F0 m 224 ls []) := by
        intro a7 M hF H locs ls hl hP hS
        unfold F4_follow_b224 at hF
        refine lv_aload_n hx hb dX4_follow_224 rfl (lv_at hl 0 rfl) ?_
        refine gf4_0 Z hP h0 wd_5_14 dX4_follow_225 ?_
        refine lv_iload hx hb dX4_follow_228 (lv_at hl 7 rfl) ?_
        refine lv_aload_n hx hb dX4_follow_230 rfl (lv_at hl 0 rfl) ?_
        refine gf4_5 Z hP h0 wd_21_2 dX4_follow_231 ?_
        obtain ⟨hi19, hF⟩ := ck_ok hF
        refine ra_st Z hP hS (ia_4_0 h0) hi19 dX4_follow_234 (fun H locs hP hS => ?_)
        refine lv_aload_n hx hb dX4_follow_235 rfl (lv_at hl 0 rfl) ?_
        refine gf4_1 Z hP h0 wd_5_15 dX4_follow_236 ?_
        refine lv_iload hx hb dX4_follow_239 (lv_at hl 7 rfl) ?_
        refine lv_aload_n hx hb dX4_follow_241 rfl (lv_at hl 0 rfl) ?_
        obtain ⟨M20, eM20, hF⟩ := lt_ok hF
        have hP : va_P g.2.2.1 vwCl (wL g M20 mm) H := by rw [eM20]; exact hP
        refine gf4_8 Z hP h0 wd_21_4 dX4_follow_242 ?_
        obtain ⟨hi21, hF⟩ := ck_ok hF
        refine ra_st Z hP hS (ia_4_1 h0) hi21 dX4_follow_245 (fun H locs hP hS => ?_)
        refine lv_aload_n hx hb dX4_follow_246 rfl (lv_at hl 0 rfl) ?_
        refine gf4_2 Z hP h0 wd_5_16 dX4_follow_247 ?_
        refine lv_iload hx hb dX4_follow_250 (lv_at hl 7 rfl) ?_
        refine lv_aload_n hx hb dX4_follow_252 rfl (lv_at hl 0 rfl) ?_
        obtain ⟨M22, eM22, hF⟩ := lt_ok hF
        have hP : va_P g.2.2.1 vwCl (wL g M22 mm) H := by rw [eM22]; exact hP
        refine gf4_9 Z hP h0 wd_21_5 dX4_follow_253 ?_
        obtain ⟨hi23, hF⟩ := ck_ok hF
        refine ra_st Z hP hS (ia_4_2 h0) hi23 dX4_follow_256 (fun H locs hP hS => ?_)
        refine lv_iinc (lv' := [(7, .int (a7 + (1 : Int32))), (0, .ref (g.1 v0)), (1, .ref (g.1 v1)), (2, .ref (g.1 v2)), (3, .ref (g.1 v3)), (4, .int v4), (5, .int v5), (6, .int v6)]) (v := (a7 + (1 : Int32))) hx hb dX4_follow_257 hl (k := 7) rfl (io_1 _) (Nat.le_of_ble_eq_true rfl) rfl (fun ls hl => ?_)
        refine lv_goto (tgt := 34) hx hb dX4_follow_260 rfl ?_
        exact ih _ _ hF _ _ _ (lv_sub hl [1, 2, 3, 4, 5, 6, 7, 0] rfl) hP hS
      have hb204 : ∀ (a7 : Int32) (a9 : Int32) (M : Mem), F4_follow_b204 kh v0 v1 v2 v3 v4 v5 v6 a7 a9 M = some q → ∀ (H : Heap) (locs : List Loc) (ls : Array Slot), lv_has ls 10 [(0, .ref (g.1 v0)), (1, .ref (g.1 v1)), (2, .ref (g.1 v2)), (3, .ref (g.1 v3)), (4, .int v4), (5, .int v5), (6, .int v6), (7, .int a7), (9, .int a9)] → va_P g.2.2.1 vwCl (wL g M mm) H → va_S (AA g s.heap.size) s.heap H locs → W p l e { frames := 1, cells := 0, slots := 0, locals := 27 } s m args below meth c H locs 0 0 (MQ below (QV g s.heap.size (q, mm)) args s 0 0 (AA g s.heap.size)) (F0 m 204 ls []) := by
        intro a7 a9 M hF H locs ls hl hP hS
        unfold F4_follow_b204 at hF
        refine lv_iload hx hb dX4_follow_204 (lv_at hl 8 rfl) ?_
        refine lv_if_eq (tgt := 224) hx hb dX4_follow_206 rfl (fun hc => ?_) (fun hc => ?_)
        · have hF := (if_pos hc).symm.trans hF
          exact hb224 _ _ hF _ _ _ (lv_sub hl [0, 1, 2, 3, 4, 5, 6, 7] rfl) hP hS
        · have hF := (if_neg hc).symm.trans hF
          refine lv_aload_n hx hb dX4_follow_209 rfl (lv_at hl 0 rfl) ?_
          refine lv_iload hx hb dX4_follow_210 (lv_at hl 7 rfl) ?_
          refine lv_aload_n hx hb dX4_follow_212 rfl (lv_at hl 1 rfl) ?_
          refine lv_aload_n hx hb dX4_follow_213 rfl (lv_at hl 0 rfl) ?_
          refine gf4_5 Z hP h0 wd_21_2 dX4_follow_214 ?_
          obtain ⟨q24, hq24, hF⟩ := bd_ok hF
          refine xX8_stay Z hP hS h1 hq24 wd_21_12 hl.1 (Nat.le_of_ble_eq_true rfl) ⟨Nat.le_of_ble_eq_true rfl, Nat.le_of_ble_eq_true rfl⟩ dX4_follow_217 (fun H locs hP hS => ?_)
          refine lv_iadd hx hb dX4_follow_220 ?_
          refine pf4_6 Z hP hS h0 wd_21_7 dX4_follow_221 (fun H locs hP hS => ?_)
          exact hb224 _ _ hF _ _ _ (lv_sub hl [0, 1, 2, 3, 4, 5, 6, 7] rfl) hP hS
      have hb203 : ∀ (a7 : Int32) (a9 : Int32) (s0 : Nat) (s1 : Int32) (s2 : Int32) (M : Mem), F4_follow_b203 kh v0 v1 v2 v3 v4 v5 v6 a7 a9 s0 s1 s2 M = some q → isA 40 s0 → ∀ (H : Heap) (locs : List Loc) (ls : Array Slot), lv_has ls 10 [(0, .ref (g.1 v0)), (1, .ref (g.1 v1)), (2, .ref (g.1 v2)), (3, .ref (g.1 v3)), (4, .int v4), (5, .int v5), (6, .int v6), (7, .int a7), (9, .int a9)] → va_P g.2.2.1 vwCl (wL g M mm) H → va_S (AA g s.heap.size) s.heap H locs → W p l e { frames := 1, cells := 0, slots := 0, locals := 27 } s m args below meth c H locs 0 0 (MQ below (QV g s.heap.size (q, mm)) args s 0 0 (AA g s.heap.size)) (F0 m 203 ls [.int s2, .int s1, .ref (g.1 s0)]) := by
        intro a7 a9 s0 s1 s2 M hF h_s0 H locs ls hl hP hS
        unfold F4_follow_b203 at hF
        obtain ⟨hi25, hF⟩ := ck_ok hF
        refine ra_st Z hP hS h_s0 hi25 dX4_follow_203 (fun H locs hP hS => ?_)
        exact hb204 _ _ _ hF _ _ _ (lv_sub hl [0, 1, 2, 3, 4, 5, 6, 7, 8] rfl) hP hS
      have hb181 : ∀ (a7 : Int32) (a9 : Int32) (s0 : Nat) (s1 : Int32) (s2 : Int32) (s3 : Int32) (M : Mem), F4_follow_b181 kh v0 v1 v2 v3 v4 v5 v6 a7 a9 s0 s1 s2 s3 M = some q → isO 4 s0 → ∀ (H : Heap) (locs : List Loc) (ls : Array Slot), lv_has ls 10 [(0, .ref (g.1 v0)), (1, .ref (g.1 v1)), (2, .ref (g.1 v2)), (3, .ref (g.1 v3)), (4, .int v4), (5, .int v5), (6, .int v6), (7, .int a7), (9, .int a9)] → va_P g.2.2.1 vwCl (wL g M mm) H → va_S (AA g s.heap.size) s.heap H locs → W p l e { frames := 1, cells := 0, slots := 0, locals := 27 } s m args below meth c H locs 0 0 (MQ below (QV g s.heap.size (q, mm)) args s 0 0 (AA g s.heap.size)) (F0 m 181 ls [.int s3, .int s2, .int s1, .ref (g.1 s0)]) := by
        intro a7 a9 s0 s1 s2 s3 M hF h_s0 H locs ls hl hP hS
        unfold F4_follow_b181 at hF
        obtain ⟨q26, hq26, hF⟩ := bd_ok hF
        refine xX4_come Z hP hS h_s0 hq26 wd_21_20 hl.1 (Nat.le_of_ble_eq_true rfl) ⟨Nat.le_of_ble_eq_true rfl, Nat.le_of_ble_eq_true rfl⟩ dX4_follow_181 (fun H locs hP hS => ?_)
        refine lv_aload_n hx hb dX4_follow_184 rfl (lv_at hl 0 rfl) ?_
        refine gf4_3 Z hP h0 wd_5_17 dX4_follow_185 ?_
        refine lv_iload hx hb dX4_follow_188 (lv_at hl 7 rfl) ?_
        refine lv_aload_n hx hb dX4_follow_190 rfl (lv_at hl 0 rfl) ?_
        refine gf4_5 Z hP h0 wd_21_2 dX4_follow_191 ?_
        refine lv_iconst (v := (-1 : Int32)) hx hb dX4_follow_194 ic_m1 ?_
        refine lv_icmp_ne (tgt := 202) hx hb dX4_follow_195 rfl (fun hc => ?_) (fun hc => ?_)
        · have hF := (if_neg hc).symm.trans hF
          refine lv_iconst (v := (1 : Int32)) hx hb dX4_follow_202 ic_1 ?_
          exact hb203 _ _ _ _ _ _ hF (ia_4_3 h0) _ _ _ (lv_sub hl [0, 1, 2, 3, 4, 5, 6, 7, 8] rfl) hP hS
        · have hF := (if_pos hc).symm.trans hF
          refine lv_iconst (v := (0 : Int32)) hx hb dX4_follow_198 ic_0 ?_
          refine lv_goto (tgt := 203) hx hb dX4_follow_199 rfl ?_
          exact hb203 _ _ _ _ _ _ hF (ia_4_3 h0) _ _ _ (lv_sub hl [0, 1, 2, 3, 4, 5, 6, 7, 8] rfl) hP hS
      have hb170 : ∀ (a7 : Int32) (a9 : Int32) (s0 : Nat) (s1 : Int32) (s2 : Int32) (M : Mem), F4_follow_b170 kh v0 v1 v2 v3 v4 v5 v6 a7 a9 s0 s1 s2 M = some q → isO 4 s0 → ∀ (H : Heap) (locs : List Loc) (ls : Array Slot), lv_has ls 10 [(0, .ref (g.1 v0)), (1, .ref (g.1 v1)), (2, .ref (g.1 v2)), (3, .ref (g.1 v3)), (4, .int v4), (5, .int v5), (6, .int v6), (7, .int a7), (9, .int a9)] → va_P g.2.2.1 vwCl (wL g M mm) H → va_S (AA g s.heap.size) s.heap H locs → W p l e { frames := 1, cells := 0, slots := 0, locals := 27 } s m args below meth c H locs 0 0 (MQ below (QV g s.heap.size (q, mm)) args s 0 0 (AA g s.heap.size)) (F0 m 170 ls [.int s2, .int s1, .ref (g.1 s0)]) := by
        intro a7 a9 s0 s1 s2 M hF h_s0 H locs ls hl hP hS
        unfold F4_follow_b170 at hF
        refine lv_iload hx hb dX4_follow_170 (lv_at hl 6 rfl) ?_
        refine lv_iconst (v := (1 : Int32)) hx hb dX4_follow_172 ic_1 ?_
        refine lv_icmp_ne (tgt := 180) hx hb dX4_follow_173 rfl (fun hc => ?_) (fun hc => ?_)
        · have hF := (if_neg hc).symm.trans hF
          refine lv_iconst (v := (0 : Int32)) hx hb dX4_follow_180 ic_0 ?_
          exact hb181 _ _ _ _ _ _ _ hF h_s0 _ _ _ (lv_sub hl [0, 1, 2, 3, 4, 5, 6, 7, 8] rfl) hP hS
        · have hF := (if_pos hc).symm.trans hF
          refine lv_iconst (v := (1 : Int32)) hx hb dX4_follow_176 ic_1 ?_
          refine lv_goto (tgt := 181) hx hb dX4_follow_177 rfl ?_
          exact hb181 _ _ _ _ _ _ _ hF h_s0 _ _ _ (lv_sub hl [0, 1, 2, 3, 4, 5, 6, 7, 8] rfl) hP hS
      have hb169 : ∀ (a7 : Int32) (a9 : Int32) (s0 : Nat) (s1 : Int32) (M : Mem), F4_follow_b169 kh v0 v1 v2 v3 v4 v5 v6 a7 a9 s0 s1 M = some q → isO 4 s0 → ∀ (H : Heap) (locs : List Loc) (ls : Array Slot), lv_has ls 10 [(0, .ref (g.1 v0)), (1, .ref (g.1 v1)), (2, .ref (g.1 v2)), (3, .ref (g.1 v3)), (4, .int v4), (5, .int v5), (6, .int v6), (7, .int a7), (9, .int a9)] → va_P g.2.2.1 vwCl (wL g M mm) H → va_S (AA g s.heap.size) s.heap H locs → W p l e { frames := 1, cells := 0, slots := 0, locals := 27 } s m args below meth c H locs 0 0 (MQ below (QV g s.heap.size (q, mm)) args s 0 0 (AA g s.heap.size)) (F0 m 169 ls [.int s1, .ref (g.1 s0)]) := by
        intro a7 a9 s0 s1 M hF h_s0 H locs ls hl hP hS
        unfold F4_follow_b169 at hF
        refine lv_iconst (v := (0 : Int32)) hx hb dX4_follow_169 ic_0 ?_
        exact hb170 _ _ _ _ _ _ hF h_s0 _ _ _ (lv_sub hl [0, 1, 2, 3, 4, 5, 6, 7, 8] rfl) hP hS
      have hb134 : ∀ (a7 : Int32) (a8 : Int32) (s0 : Int32) (M : Mem), F4_follow_b134 kh v0 v1 v2 v3 v4 v5 v6 a7 a8 s0 M = some q → ∀ (H : Heap) (locs : List Loc) (ls : Array Slot), lv_has ls 10 [(0, .ref (g.1 v0)), (1, .ref (g.1 v1)), (2, .ref (g.1 v2)), (3, .ref (g.1 v3)), (4, .int v4), (5, .int v5), (6, .int v6), (7, .int a7), (8, .int a8)] → va_P g.2.2.1 vwCl (wL g M mm) H → va_S (AA g s.heap.size) s.heap H locs → W p l e { frames := 1, cells := 0, slots := 0, locals := 27 } s m args below meth c H locs 0 0 (MQ below (QV g s.heap.size (q, mm)) args s 0 0 (AA g s.heap.size)) (F0 m 134 ls [.int s0]) := by
        intro a7 a8 s0 M hF H locs ls hl hP hS
        unfold F4_follow_b134 at hF
        refine lv_istore (lv' := [(9, .int s0), (0, .ref (g.1 v0)), (1, .ref (g.1 v1)), (2, .ref (g.1 v2)), (3, .ref (g.1 v3)), (4, .int v4), (5, .int v5), (6, .int v6), (7, .int a7), (8, .int a8)]) hx hb dX4_follow_134 hl (Nat.le_of_ble_eq_true rfl) rfl (fun ls hl => ?_)
        refine lv_iload hx hb dX4_follow_136 (lv_at hl 9 rfl) ?_
        refine lv_aload_n hx hb dX4_follow_138 rfl (lv_at hl 1 rfl) ?_
        refine gf4_5 Z hP h0 wd_21_2 dX4_follow_139 ?_
        refine lv_icmp_eq (tgt := 204) hx hb dX4_follow_142 rfl (fun hc => ?_) (fun hc => ?_)
        · have hF := (if_pos hc).symm.trans hF
          exact hb204 _ _ _ hF _ _ _ (lv_sub hl [1, 2, 3, 4, 5, 6, 7, 8, 0] rfl) hP hS
        · have hF := (if_neg hc).symm.trans hF
          refine lv_aload_n hx hb dX4_follow_145 rfl (lv_at hl 1 rfl) ?_
          refine lv_iload hx hb dX4_follow_146 (lv_at hl 9 rfl) ?_
          refine lv_iload hx hb dX4_follow_148 (lv_at hl 9 rfl) ?_
          refine lv_iconst (v := (-1 : Int32)) hx hb dX4_follow_150 ic_m1 ?_
          refine lv_icmp_eq (tgt := 169) hx hb dX4_follow_151 rfl (fun hc => ?_) (fun hc => ?_)
          · have hF := (if_pos hc).symm.trans hF
            exact hb169 _ _ _ _ _ hF h0 _ _ _ (lv_sub hl [1, 2, 3, 4, 5, 6, 7, 8, 0] rfl) hP hS
          · have hF := (if_neg hc).symm.trans hF
            refine lv_aload_n hx hb dX4_follow_154 rfl (lv_at hl 2 rfl) ?_
            refine gf8_0N Z hP h1 nf_38 dX4_follow_155 ?_
            refine lv_iload hx hb dX4_follow_158 (lv_at hl 9 rfl) ?_
            obtain ⟨hi27, hF⟩ := ck_ok hF
            refine ra_ld Z hP (ia_8_0 h1) hi27 dX4_follow_160 ?_
            refine lv_iconst (v := (1 : Int32)) hx hb dX4_follow_161 ic_1 ?_
            refine lv_icmp_ne (tgt := 169) hx hb dX4_follow_162 rfl (fun hc => ?_) (fun hc => ?_)
            · have hF := (if_neg hc).symm.trans hF
              exact hb169 _ _ _ _ _ hF h0 _ _ _ (lv_sub hl [1, 2, 3, 4, 5, 6, 7, 8, 0] rfl) hP hS
            · have hF := (if_pos hc).symm.trans hF
              refine lv_iconst (v := (1 : Int32)) hx hb dX4_follow_165 ic_1 ?_
              refine lv_goto (tgt := 170) hx hb dX4_follow_166 rfl ?_
              exact hb170 _ _ _ _ _ _ hF h0 _ _ _ (lv_sub hl [1, 2, 3, 4, 5, 6, 7, 8, 0] rfl) hP hS
      have hb129 : ∀ (a7 : Int32) (a8 : Int32) (M : Mem), F4_follow_b129 kh v0 v1 v2 v3 v4 v5 v6 a7 a8 M = some q → ∀ (H : Heap) (locs : List Loc) (ls : Array Slot), lv_has ls 10 [(0, .ref (g.1 v0)), (1, .ref (g.1 v1)), (2, .ref (g.1 v2)), (3, .ref (g.1 v3)), (4, .int v4), (5, .int v5), (6, .int v6), (7, .int a7), (8, .int a8)] → va_P g.2.2.1 vwCl (wL g M mm) H → va_S (AA g s.heap.size) s.heap H locs → W p l e { frames := 1, cells := 0, slots := 0, locals := 27 } s m args below meth c H locs 0 0 (MQ below (QV g s.heap.size (q, mm)) args s 0 0 (AA g s.heap.size)) (F0 m 129 ls []) := by
        intro a7 a8 M hF H locs ls hl hP hS
        unfold F4_follow_b129 at hF
        refine lv_iconst (v := (1 : Int32)) hx hb dX4_follow_129 ic_1 ?_
        refine lv_goto (tgt := 134) hx hb dX4_follow_130 rfl ?_
        exact hb134 _ _ _ _ hF _ _ _ (lv_sub hl [0, 1, 2, 3, 4, 5, 6, 7, 8] rfl) hP hS
      intro a7 M hF H locs ls hl hP hS
      have hF : F4_follow_p34 (F4_follow_h34 v0 v1 v2 v3 v4 v5 v6 n) v0 v1 v2 v3 v4 v5 v6 a7 M = some q := hF
      rw [hkh] at hF
      unfold F4_follow_p34 at hF
      refine lv_iload hx hb dX4_follow_34 (lv_at hl 7 rfl) ?_
      refine lv_bipush (v := (40 : Int32)) hx hb dX4_follow_36 bp_40 ?_
      refine lv_icmp_ge (tgt := 263) hx hb dX4_follow_38 rfl (fun hc => ?_) (fun hc => ?_)
      · have hF := (if_pos hc).symm.trans hF
        exact ret_VWC Z hr hlk hP hS hF dX4_follow_263
      · have hF := (if_neg hc).symm.trans hF
        refine lv_aload_n hx hb dX4_follow_41 rfl (lv_at hl 0 rfl) ?_
        refine gf4_3 Z hP h0 wd_5_17 dX4_follow_42 ?_
        refine lv_iload hx hb dX4_follow_45 (lv_at hl 7 rfl) ?_
        refine lv_iconst (v := (0 : Int32)) hx hb dX4_follow_47 ic_0 ?_
        obtain ⟨hi28, hF⟩ := ck_ok hF
        refine ra_st Z hP hS (ia_4_3 h0) hi28 dX4_follow_48 (fun H locs hP hS => ?_)
        refine lv_iload hx hb dX4_follow_49 (lv_at hl 7 rfl) ?_
        refine lv_aload_n hx hb dX4_follow_51 rfl (lv_at hl 3 rfl) ?_
        refine gf5_0N Z hP h3 nf_36 dX4_follow_52 ?_
        refine lv_iload hx hb dX4_follow_55 (lv_at hl 4 rfl) ?_
        obtain ⟨M29, eM29, hF⟩ := lt_ok hF
        have hP : va_P g.2.2.1 vwCl (wL g M29 mm) H := by rw [eM29]; exact hP
        obtain ⟨hi30, hF⟩ := ck_ok hF
        refine ra_ld Z hP (ia_5_0 h3) hi30 dX4_follow_57 ?_
        refine lv_icmp_ne (tgt := 93) hx hb dX4_follow_58 rfl (fun hc => ?_) (fun hc => ?_)
        · have hF := (if_neg hc).symm.trans hF
          refine lv_aload_n hx hb dX4_follow_93 rfl (lv_at hl 0 rfl) ?_
          refine gf4_5 Z hP h0 wd_21_2 dX4_follow_94 ?_
          refine lv_iconst (v := (-1 : Int32)) hx hb dX4_follow_97 ic_m1 ?_
          refine lv_icmp_eq (tgt := 224) hx hb dX4_follow_98 rfl (fun hc => ?_) (fun hc => ?_)
          · have hF := (if_pos hc).symm.trans hF
            exact hb224 _ _ hF _ _ _ (lv_sub hl [0, 1, 2, 3, 4, 5, 6, 7] rfl) hP hS
          · have hF := (if_neg hc).symm.trans hF
            refine lv_aload_n hx hb dX4_follow_101 rfl (lv_at hl 0 rfl) ?_
            refine lv_aload_n hx hb dX4_follow_102 rfl (lv_at hl 1 rfl) ?_
            refine lv_aload_n hx hb dX4_follow_103 rfl (lv_at hl 2 rfl) ?_
            refine lv_iload hx hb dX4_follow_104 (lv_at hl 7 rfl) ?_
            obtain ⟨q31, hq31, hF⟩ := bd_ok hF
            refine xX4_next Z hP hS h0 h1 h2 hq31 wd_21_16 hl.1 (Nat.le_of_ble_eq_true rfl) ⟨Nat.le_of_ble_eq_true rfl, Nat.le_of_ble_eq_true rfl⟩ dX4_follow_106 (fun H locs hP hS => ?_)
            refine lv_istore (lv' := [(8, .int q31), (0, .ref (g.1 v0)), (1, .ref (g.1 v1)), (2, .ref (g.1 v2)), (3, .ref (g.1 v3)), (4, .int v4), (5, .int v5), (6, .int v6), (7, .int a7)]) hx hb dX4_follow_109 hl (Nat.le_of_ble_eq_true rfl) rfl (fun ls hl => ?_)
            refine lv_iload hx hb dX4_follow_111 (lv_at hl 0 rfl) ?_
            refine lv_aload_n hx hb dX4_follow_113 rfl (lv_at hl 1 rfl) ?_
            refine gf4_5 Z hP h0 wd_21_2 dX4_follow_114 ?_
            refine lv_icmp_ne (tgt := 129) hx hb dX4_follow_117 rfl (fun hc => ?_) (fun hc => ?_)
            · have hF := (if_neg hc).symm.trans hF
              exact hb129 _ _ _ hF _ _ _ (lv_sub hl [1, 2, 3, 4, 5, 6, 7, 8, 0] rfl) hP hS
            · have hF := (if_pos hc).symm.trans hF
              refine lv_iload hx hb dX4_follow_120 (lv_at hl 8 rfl) ?_
              refine lv_aload_n hx hb dX4_follow_122 rfl (lv_at hl 1 rfl) ?_
              refine gf4_6 Z hP h0 wd_21_7 dX4_follow_123 ?_
              refine lv_icmp_ne (tgt := 133) hx hb dX4_follow_126 rfl (fun hc => ?_) (fun hc => ?_)
              · have hF := (if_neg hc).symm.trans hF
                refine lv_iconst (v := (0 : Int32)) hx hb dX4_follow_133 ic_0 ?_
                exact hb134 _ _ _ _ hF _ _ _ (lv_sub hl [1, 2, 3, 4, 5, 6, 7, 8, 0] rfl) hP hS
              · have hF := (if_pos hc).symm.trans hF
                exact hb129 _ _ _ hF _ _ _ (lv_sub hl [1, 2, 3, 4, 5, 6, 7, 8, 0] rfl) hP hS
        · have hF := (if_pos hc).symm.trans hF
          refine lv_aload_n hx hb dX4_follow_61 rfl (lv_at hl 0 rfl) ?_
          refine lv_aload_n hx hb dX4_follow_62 rfl (lv_at hl 1 rfl) ?_
          refine lv_aload_n hx hb dX4_follow_63 rfl (lv_at hl 2 rfl) ?_
          refine gf3_1N Z hP h2 nf_37 dX4_follow_64 ?_
          refine lv_iload hx hb dX4_follow_67 (lv_at hl 7 rfl) ?_
          obtain ⟨hi32, hF⟩ := ck_ok hF
          refine ra_ld Z hP (ia_3_1 h2) hi32 dX4_follow_69 ?_
          refine lv_iload hx hb dX4_follow_70 (lv_at hl 5 rfl) ?_
          obtain ⟨q33, hq33, hF⟩ := bd_ok hF
          refine xX4_begin Z hP hS h0 h1 hq33 wd_21_8 hl.1 (Nat.le_of_ble_eq_true rfl) ⟨Nat.le_of_ble_eq_true rfl, Nat.le_of_ble_eq_true rfl⟩ dX4_follow_72 (fun H locs hP hS => ?_)
          refine lv_aload_n hx hb dX4_follow_75 rfl (lv_at hl 0 rfl) ?_
          refine lv_iload hx hb dX4_follow_76 (lv_at hl 7 rfl) ?_
          refine lv_aload_n hx hb dX4_follow_78 rfl (lv_at hl 1 rfl) ?_
          refine lv_aload_n hx hb dX4_follow_79 rfl (lv_at hl 0 rfl) ?_
          refine gf4_5 Z hP h0 wd_21_2 dX4_follow_80 ?_
          obtain ⟨q34, hq34, hF⟩ := bd_ok hF
          refine xX8_stay Z hP hS h1 hq34 wd_21_12 hl.1 (Nat.le_of_ble_eq_true rfl) ⟨Nat.le_of_ble_eq_true rfl, Nat.le_of_ble_eq_true rfl⟩ dX4_follow_83 (fun H locs hP hS => ?_)
          refine lv_iadd hx hb dX4_follow_86 ?_
          refine pf4_6 Z hP hS h0 wd_21_7 dX4_follow_87 (fun H locs hP hS => ?_)
          refine lv_goto (tgt := 224) hx hb dX4_follow_90 rfl ?_
          exact hb224 _ _ hF _ _ _ (lv_sub hl [0, 1, 2, 3, 4, 5, 6, 7] rfl) hP hS
  refine lv_aload_n hx hb dX4_follow_0 rfl (lv_at hl 0 rfl) ?_
  refine lv_iconst (v := (-1 : Int32)) hx hb dX4_follow_1 ic_m1 ?_
  refine pf4_5 Z hP hS h0 wd_21_2 dX4_follow_2 (fun H locs hP hS => ?_)
  refine lv_aload_n hx hb dX4_follow_5 rfl (lv_at hl 0 rfl) ?_
  refine lv_iconst (v := (0 : Int32)) hx hb dX4_follow_6 ic_0 ?_
  refine pf4_7 Z hP hS h0 wd_21_3 dX4_follow_7 (fun H locs hP hS => ?_)
  refine lv_aload_n hx hb dX4_follow_10 rfl (lv_at hl 0 rfl) ?_
  refine lv_iconst (v := (0 : Int32)) hx hb dX4_follow_11 ic_0 ?_
  refine pf4_8 Z hP hS h0 wd_21_4 dX4_follow_12 (fun H locs hP hS => ?_)
  refine lv_aload_n hx hb dX4_follow_15 rfl (lv_at hl 0 rfl) ?_
  refine lv_aload_n hx hb dX4_follow_16 rfl (lv_at hl 3 rfl) ?_
  refine gf5_3N Z hP h3 nf_35 dX4_follow_17 ?_
  refine lv_iload hx hb dX4_follow_20 (lv_at hl 4 rfl) ?_
  obtain ⟨M35, eM35, hF⟩ := lt_ok hF
  have hP : va_P g.2.2.1 vwCl (wL g M35 mm) H := by rw [eM35]; exact hP
  obtain ⟨hi36, hF⟩ := ck_ok hF
  refine ra_ld Z hP (ia_5_3 h3) hi36 dX4_follow_22 ?_
  refine pf4_9 Z hP hS h0 wd_21_5 dX4_follow_23 (fun H locs hP hS => ?_)
  refine lv_aload_n hx hb dX4_follow_26 rfl (lv_at hl 0 rfl) ?_
  refine lv_iconst (v := (0 : Int32)) hx hb dX4_follow_27 ic_0 ?_
  refine pf4_4 Z hP hS h0 wd_21_6 dX4_follow_28 (fun H locs hP hS => ?_)
  refine lv_iconst (v := (0 : Int32)) hx hb dX4_follow_31 ic_0 ?_
  refine lv_istore (lv' := [(7, .int (0 : Int32)), (0, .ref (g.1 v0)), (1, .ref (g.1 v1)), (2, .ref (g.1 v2)), (3, .ref (g.1 v3)), (4, .int v4), (5, .int v5), (6, .int v6)]) hx hb dX4_follow_32 hl (Nat.le_of_ble_eq_true rfl) rfl (fun ls hl => ?_)
  exact (hL34 FU) _ _ hF _ _ _ (lv_sub hl [1, 2, 3, 4, 5, 6, 7, 0] rfl) hP hS
theorem xX4_follow {p : Program} {l : Launch} {e : Env} {R : Room} {s : State} {m : MethodId} {args : Array Value} {below : List Frame} {meth : Method} {c : Code} {H : Heap} {locs : List Loc} {Q : State → Prop} {cc : ByteArray} {nL : Nat} {own : String} {g : GG} {pc index : Nat} {ls : Array Slot} {rest : List Value} {mc mm : Mem} (Z : ZZ p s m args c cc nL own g) (hP : va_P g.2.2.1 vwCl (wL g mc mm) H) (hS : va_S (AA g s.heap.size) s.heap H locs) {v0 : Nat} {v1 : Nat} {v2 : Nat} {v3 : Nat} {v4 : Int32} {v5 : Int32} {v6 : Int32} (h0 : isO 4 v0) (h1 : isO 8 v1) (h2 : isO 3 v2) (h3 : isO 5 v3) {q : Mem} (hq : F4_follow v0 v1 v2 v3 v4 v5 v6 mc = some q) (hlk : Cond.methodLink own index yX4_follow ∈ wsL_law) (hsz : ls.size = nL) (hro : (rest.map fun v => v.category).sum ≤ 8) (hR : 1 + 1 ≤ R.frames ∧ 8 + (10 + 11) + 27 ≤ R.locals) (hdg : decode cc pc = .ok (.invokevirtual index, 3)) (kk : ∀ (H : Heap) (locs : List Loc), va_P g.2.2.1 vwCl (wL g q mm) H → va_S (AA g s.heap.size) s.heap H locs → W p l e R s m args below meth c H locs 0 0 Q (F0 m (pc + 3) ls (rest))) : W p l e R s m args below meth c H locs 0 0 Q (F0 m pc ls (.int v6 :: .int v5 :: .int v4 :: .ref (g.1 v3) :: .ref (g.1 v2) :: .ref (g.1 v1) :: .ref (g.1 v0) :: rest)) :=
  x_VV Z hP hS (kX4_follow l g v0 v1 v2 v3 v4 v5 v6 h0 h1 h2 h3 mc mm q hq) (isO_w h0) (ci := 4) (by decide) rfl rfl mf_X4_follow mv_X4_follow hlk rfl rfl hsz hro hR hdg kk
theorem dX4_isHeardAt_0 : decode cX4_isHeardAt 0 = .ok (.iload_n 1, 1) := by decide +kernel
theorem dX4_isHeardAt_1 : decode cX4_isHeardAt 1 = .ok (.bipush 8, 2) := by decide +kernel
theorem dX4_isHeardAt_3 : decode cX4_isHeardAt 3 = .ok (.invokestatic 96, 3) := by decide +kernel
theorem dX4_isHeardAt_6 : decode cX4_isHeardAt 6 = .ok (.ifCond .eq 19, 3) := by decide +kernel
theorem dX4_isHeardAt_9 : decode cX4_isHeardAt 9 = .ok (.aload_n 0, 1) := by decide +kernel
theorem dX4_isHeardAt_10 : decode cX4_isHeardAt 10 = .ok (.getfield 42, 3) := by decide +kernel
theorem dX4_isHeardAt_13 : decode cX4_isHeardAt 13 = .ok (.iload_n 1, 1) := by decide +kernel
theorem dX4_isHeardAt_14 : decode cX4_isHeardAt 14 = .ok (.ishr, 1) := by decide +kernel
theorem dX4_isHeardAt_15 : decode cX4_isHeardAt 15 = .ok (.iconst 1, 1) := by decide +kernel
theorem dX4_isHeardAt_16 : decode cX4_isHeardAt 16 = .ok (.iand, 1) := by decide +kernel
theorem dX4_isHeardAt_17 : decode cX4_isHeardAt 17 = .ok (.iconst 1, 1) := by decide +kernel
theorem dX4_isHeardAt_18 : decode cX4_isHeardAt 18 = .ok (.if_icmp .ne 7, 3) := by decide +kernel
theorem dX4_isHeardAt_21 : decode cX4_isHeardAt 21 = .ok (.iconst 1, 1) := by decide +kernel
theorem dX4_isHeardAt_22 : decode cX4_isHeardAt 22 = .ok (.goto 4, 3) := by decide +kernel
theorem dX4_isHeardAt_25 : decode cX4_isHeardAt 25 = .ok (.iconst 0, 1) := by decide +kernel
theorem dX4_isHeardAt_26 : decode cX4_isHeardAt 26 = .ok (.ireturn, 1) := by decide +kernel
noncomputable def F4_isHeardAt_b25 (v0 : Nat) (v1 : Int32) (mc : Mem) : Option (Int32) :=
  some (0 : Int32)
noncomputable def F4_isHeardAt (v0 : Nat) (v1 : Int32) (mc : Mem) : Option (Int32) :=
  ((F9_in v1 (8 : Int32)).bind (fun q2 => (if q2 = (0 : Int32) then (F4_isHeardAt_b25 v0 v1 mc) else (if (((mc v0 4) >>> (v1 &&& (31 : Int32))) &&& (1 : Int32)) = (1 : Int32) then some (1 : Int32) else (F4_isHeardAt_b25 v0 v1 mc)))))
set_option maxHeartbeats 4000000 in
set_option maxRecDepth 100000 in
theorem kX4_isHeardAt (l : Launch) (g : GG) (v0 : Nat) (v1 : Int32) (h0 : isO 4 v0) (mc mm : Mem) (q : Int32) (hF : F4_isHeardAt v0 v1 mc = some q) : KI l yX4_isHeardAt cX4_isHeardAt 2 .boolean 1 21 g [.ref (g.1 v0), .int v1] mc mm q (mc, mm) := by
  intro sz
  refine x_start (Qc := fun z => QI g z q (mc, mm)) (by decide +kernel) (Nat.le_of_ble_eq_true rfl) ?_ sz
  intro p e s m args below meth c ls Z hr hlk hP hl
  have hx := Z.1.1
  have hb := Z.1.2.1
  have hown := Z.1.2.2.2.1
  have hts := Z.1.2.2.2.2
  have hS : va_S (AA g s.heap.size) s.heap s.heap [] := va_S.rf
  have hl : lv_has ls 2 [(0, .ref (g.1 v0)), (1, .int v1)] := hl
  unfold F4_isHeardAt at hF
  have hb25 : F4_isHeardAt_b25 v0 v1 mc = some q → ∀ (H : Heap) (locs : List Loc) (ls : Array Slot), lv_has ls 2 [] → va_P g.2.2.1 vwCl (wL g mc mm) H → va_S (AA g s.heap.size) s.heap H locs → W p l e { frames := 1, cells := 0, slots := 0, locals := 21 } s m args below meth c H locs 0 0 (MQ below (QI g s.heap.size q (mc, mm)) args s 0 0 (AA g s.heap.size)) (F0 m 25 ls []) := by
    intro hF H locs ls hl hP hS
    unfold F4_isHeardAt_b25 at hF
    refine lv_iconst (v := (0 : Int32)) hx hb dX4_isHeardAt_25 ic_0 ?_
    exact ret_Z Z hr hlk hP hS (Or.inl rfl) hF dX4_isHeardAt_26
  refine lv_iload_n hx hb dX4_isHeardAt_0 rfl (lv_at hl 1 rfl) ?_
  refine lv_bipush (v := (8 : Int32)) hx hb dX4_isHeardAt_1 bp_8 ?_
  obtain ⟨q2, hq2, hF⟩ := bd_ok hF
  refine xX9_inN Z hP hS hq2 nm_9 hl.1 (Nat.le_of_ble_eq_true rfl) ⟨Nat.le_of_ble_eq_true rfl, Nat.le_of_ble_eq_true rfl⟩ dX4_isHeardAt_3 (fun H locs hP hS => ?_)
  refine lv_if_eq (tgt := 25) hx hb dX4_isHeardAt_6 rfl (fun hc => ?_) (fun hc => ?_)
  · have hF := (if_pos hc).symm.trans hF
    exact hb25  hF _ _ _ (lv_sub hl [] rfl) hP hS
  · have hF := (if_neg hc).symm.trans hF
    refine lv_aload_n hx hb dX4_isHeardAt_9 rfl (lv_at hl 0 rfl) ?_
    refine gf4_4 Z hP h0 wd_21_6 dX4_isHeardAt_10 ?_
    refine lv_iload_n hx hb dX4_isHeardAt_13 rfl (lv_at hl 1 rfl) ?_
    refine lv_ishr hx hb dX4_isHeardAt_14 ?_
    refine lv_iconst (v := (1 : Int32)) hx hb dX4_isHeardAt_15 ic_1 ?_
    refine lv_iand hx hb dX4_isHeardAt_16 ?_
    refine lv_iconst (v := (1 : Int32)) hx hb dX4_isHeardAt_17 ic_1 ?_
    refine lv_icmp_ne (tgt := 25) hx hb dX4_isHeardAt_18 rfl (fun hc => ?_) (fun hc => ?_)
    · have hF := (if_neg hc).symm.trans hF
      exact hb25  hF _ _ _ (lv_sub hl [] rfl) hP hS
    · have hF := (if_pos hc).symm.trans hF
      refine lv_iconst (v := (1 : Int32)) hx hb dX4_isHeardAt_21 ic_1 ?_
      refine lv_goto (tgt := 26) hx hb dX4_isHeardAt_22 rfl ?_
      exact ret_Z Z hr hlk hP hS (Or.inr rfl) hF dX4_isHeardAt_26
theorem xX4_isHeardAt {p : Program} {l : Launch} {e : Env} {R : Room} {s : State} {m : MethodId} {args : Array Value} {below : List Frame} {meth : Method} {c : Code} {H : Heap} {locs : List Loc} {Q : State → Prop} {cc : ByteArray} {nL : Nat} {own : String} {g : GG} {pc index : Nat} {ls : Array Slot} {rest : List Value} {mc mm : Mem} (Z : ZZ p s m args c cc nL own g) (hP : va_P g.2.2.1 vwCl (wL g mc mm) H) (hS : va_S (AA g s.heap.size) s.heap H locs) {v0 : Nat} {v1 : Int32} (h0 : isO 4 v0) {q : Int32} (hq : F4_isHeardAt v0 v1 mc = some q) (hlk : Cond.methodLink own index yX4_isHeardAt ∈ wsL_law) (hsz : ls.size = nL) (hro : (rest.map fun v => v.category).sum ≤ 8) (hR : 1 + 1 ≤ R.frames ∧ 8 + (2 + 11) + 21 ≤ R.locals) (hdg : decode cc pc = .ok (.invokevirtual index, 3)) (kk : ∀ (H : Heap) (locs : List Loc), va_P g.2.2.1 vwCl (wL g mc mm) H → va_S (AA g s.heap.size) s.heap H locs → W p l e R s m args below meth c H locs 0 0 Q (F0 m (pc + 3) ls (.int q :: rest))) : W p l e R s m args below meth c H locs 0 0 Q (F0 m pc ls (.int v1 :: .ref (g.1 v0) :: rest)) :=
  x_VI Z hP hS (kX4_isHeardAt l g v0 v1 h0 mc mm q hq) (isO_w h0) (ci := 4) (by decide) rfl rfl mf_X4_isHeardAt mv_X4_isHeardAt hlk rfl rfl hsz hro hR hdg kk
theorem dX4_firstHeard_0 : decode cX4_firstHeard 0 = .ok (.iconst 0, 1) := by decide +kernel
theorem dX4_firstHeard_1 : decode cX4_firstHeard 1 = .ok (.istore_n 2, 1) := by decide +kernel
theorem dX4_firstHeard_2 : decode cX4_firstHeard 2 = .ok (.iload_n 2, 1) := by decide +kernel
theorem dX4_firstHeard_3 : decode cX4_firstHeard 3 = .ok (.bipush 40, 2) := by decide +kernel
theorem dX4_firstHeard_5 : decode cX4_firstHeard 5 = .ok (.if_icmp .ge 31, 3) := by decide +kernel
theorem dX4_firstHeard_8 : decode cX4_firstHeard 8 = .ok (.aload_n 0, 1) := by decide +kernel
theorem dX4_firstHeard_9 : decode cX4_firstHeard 9 = .ok (.getfield 21, 3) := by decide +kernel
theorem dX4_firstHeard_12 : decode cX4_firstHeard 12 = .ok (.iload_n 2, 1) := by decide +kernel
theorem dX4_firstHeard_13 : decode cX4_firstHeard 13 = .ok (.iaload, 1) := by decide +kernel
theorem dX4_firstHeard_14 : decode cX4_firstHeard 14 = .ok (.iconst 1, 1) := by decide +kernel
theorem dX4_firstHeard_15 : decode cX4_firstHeard 15 = .ok (.if_icmp .ne 15, 3) := by decide +kernel
theorem dX4_firstHeard_18 : decode cX4_firstHeard 18 = .ok (.aload_n 0, 1) := by decide +kernel
theorem dX4_firstHeard_19 : decode cX4_firstHeard 19 = .ok (.getfield 9, 3) := by decide +kernel
theorem dX4_firstHeard_22 : decode cX4_firstHeard 22 = .ok (.iload_n 2, 1) := by decide +kernel
theorem dX4_firstHeard_23 : decode cX4_firstHeard 23 = .ok (.iaload, 1) := by decide +kernel
theorem dX4_firstHeard_24 : decode cX4_firstHeard 24 = .ok (.iload_n 1, 1) := by decide +kernel
theorem dX4_firstHeard_25 : decode cX4_firstHeard 25 = .ok (.if_icmp .ne 5, 3) := by decide +kernel
theorem dX4_firstHeard_28 : decode cX4_firstHeard 28 = .ok (.iload_n 2, 1) := by decide +kernel
theorem dX4_firstHeard_29 : decode cX4_firstHeard 29 = .ok (.ireturn, 1) := by decide +kernel
theorem dX4_firstHeard_30 : decode cX4_firstHeard 30 = .ok (.iinc 2 1, 3) := by decide +kernel
theorem dX4_firstHeard_33 : decode cX4_firstHeard 33 = .ok (.goto (-31), 3) := by decide +kernel
theorem dX4_firstHeard_36 : decode cX4_firstHeard 36 = .ok (.iconst (-1), 1) := by decide +kernel
theorem dX4_firstHeard_37 : decode cX4_firstHeard 37 = .ok (.ireturn, 1) := by decide +kernel
noncomputable def F4_firstHeard_b30 (kh : Int32 → Option (Int32)) (v0 : Nat) (v1 : Int32) (mc : Mem) (a2 : Int32) : Option (Int32) :=
  kh (a2 + (1 : Int32))
noncomputable def F4_firstHeard_p2 (kh : Int32 → Option (Int32)) (v0 : Nat) (v1 : Int32) (mc : Mem) (a2 : Int32) : Option (Int32) :=
  (if (40 : Int32) ≤ a2 then some (-1 : Int32) else (ck a2 40 (if (mc (v0 + 4) a2.toNatClampNeg) = (1 : Int32) then (ck a2 40 (if (mc (v0 + 1) a2.toNatClampNeg) = v1 then some a2 else (F4_firstHeard_b30 kh v0 v1 mc) a2)) else (F4_firstHeard_b30 kh v0 v1 mc) a2)))
noncomputable def F4_firstHeard_h2 (v0 : Nat) (v1 : Int32) (mc : Mem) : Nat → Int32 → Option (Int32)
  | 0, _ => none
  | n + 1, a2 => F4_firstHeard_p2 (F4_firstHeard_h2 v0 v1 mc n) v0 v1 mc a2
noncomputable def F4_firstHeard (v0 : Nat) (v1 : Int32) (mc : Mem) : Option (Int32) :=
  (F4_firstHeard_h2 v0 v1 mc FU) (0 : Int32)
set_option maxHeartbeats 4000000 in
set_option maxRecDepth 100000 in
theorem kX4_firstHeard (l : Launch) (g : GG) (v0 : Nat) (v1 : Int32) (h0 : isO 4 v0) (mc mm : Mem) (q : Int32) (hF : F4_firstHeard v0 v1 mc = some q) : KI l yX4_firstHeard cX4_firstHeard 3 .int 0 0 g [.ref (g.1 v0), .int v1] mc mm q (mc, mm) := by
  intro sz
  refine x_start (Qc := fun z => QI g z q (mc, mm)) (by decide +kernel) (Nat.le_of_ble_eq_true rfl) ?_ sz
  intro p e s m args below meth c ls Z hr hlk hP hl
  have hx := Z.1.1
  have hb := Z.1.2.1
  have hown := Z.1.2.2.2.1
  have hts := Z.1.2.2.2.2
  have hS : va_S (AA g s.heap.size) s.heap s.heap [] := va_S.rf
  have hl : lv_has ls 3 [(0, .ref (g.1 v0)), (1, .int v1)] := hl
  unfold F4_firstHeard at hF
  have hL2 : ∀ n : Nat, ∀ (a2 : Int32), F4_firstHeard_h2 v0 v1 mc n a2 = some q → ∀ (H : Heap) (locs : List Loc) (ls : Array Slot), lv_has ls 3 [(0, .ref (g.1 v0)), (1, .int v1), (2, .int a2)] → va_P g.2.2.1 vwCl (wL g mc mm) H → va_S (AA g s.heap.size) s.heap H locs → W p l e { frames := 0, cells := 0, slots := 0, locals := 0 } s m args below meth c H locs 0 0 (MQ below (QI g s.heap.size q (mc, mm)) args s 0 0 (AA g s.heap.size)) (F0 m 2 ls []) := by
    intro n
    induction n with
    | zero => intro a2 hF H locs ls hl hP hS; exact absurd hF (fun z => nomatch (show (none : Option _) = some q from z))
    | succ n ih =>
      generalize hkh : F4_firstHeard_h2 v0 v1 mc n = kh at ih
      have hb30 : ∀ (a2 : Int32), F4_firstHeard_b30 kh v0 v1 mc a2 = some q → ∀ (H : Heap) (locs : List Loc) (ls : Array Slot), lv_has ls 3 [(0, .ref (g.1 v0)), (1, .int v1), (2, .int a2)] → va_P g.2.2.1 vwCl (wL g mc mm) H → va_S (AA g s.heap.size) s.heap H locs → W p l e { frames := 0, cells := 0, slots := 0, locals := 0 } s m args below meth c H locs 0 0 (MQ below (QI g s.heap.size q (mc, mm)) args s 0 0 (AA g s.heap.size)) (F0 m 30 ls []) := by
        intro a2 hF H locs ls hl hP hS
        unfold F4_firstHeard_b30 at hF
        refine lv_iinc (lv' := [(2, .int (a2 + (1 : Int32))), (0, .ref (g.1 v0)), (1, .int v1)]) (v := (a2 + (1 : Int32))) hx hb dX4_firstHeard_30 hl (k := 2) rfl (io_1 _) (Nat.le_of_ble_eq_true rfl) rfl (fun ls hl => ?_)
        refine lv_goto (tgt := 2) hx hb dX4_firstHeard_33 rfl ?_
        exact ih _ hF _ _ _ (lv_sub hl [1, 2, 0] rfl) hP hS
      intro a2 hF H locs ls hl hP hS
      have hF : F4_firstHeard_p2 (F4_firstHeard_h2 v0 v1 mc n) v0 v1 mc a2 = some q := hF
      rw [hkh] at hF
      unfold F4_firstHeard_p2 at hF
      refine lv_iload_n hx hb dX4_firstHeard_2 rfl (lv_at hl 2 rfl) ?_
      refine lv_bipush (v := (40 : Int32)) hx hb dX4_firstHeard_3 bp_40 ?_
      refine lv_icmp_ge (tgt := 36) hx hb dX4_firstHeard_5 rfl (fun hc => ?_) (fun hc => ?_)
      · have hF := (if_pos hc).symm.trans hF
        refine lv_iconst (v := (-1 : Int32)) hx hb dX4_firstHeard_36 ic_m1 ?_
        exact ret_I Z hr hlk hP hS hF dX4_firstHeard_37
      · have hF := (if_neg hc).symm.trans hF
        refine lv_aload_n hx hb dX4_firstHeard_8 rfl (lv_at hl 0 rfl) ?_
        refine gf4_3 Z hP h0 wd_5_17 dX4_firstHeard_9 ?_
        refine lv_iload_n hx hb dX4_firstHeard_12 rfl (lv_at hl 2 rfl) ?_
        obtain ⟨hi3, hF⟩ := ck_ok hF
        refine ra_ld Z hP (ia_4_3 h0) hi3 dX4_firstHeard_13 ?_
        refine lv_iconst (v := (1 : Int32)) hx hb dX4_firstHeard_14 ic_1 ?_
        refine lv_icmp_ne (tgt := 30) hx hb dX4_firstHeard_15 rfl (fun hc => ?_) (fun hc => ?_)
        · have hF := (if_neg hc).symm.trans hF
          exact hb30 _ hF _ _ _ (lv_sub hl [0, 1, 2] rfl) hP hS
        · have hF := (if_pos hc).symm.trans hF
          refine lv_aload_n hx hb dX4_firstHeard_18 rfl (lv_at hl 0 rfl) ?_
          refine gf4_0 Z hP h0 wd_5_14 dX4_firstHeard_19 ?_
          refine lv_iload_n hx hb dX4_firstHeard_22 rfl (lv_at hl 2 rfl) ?_
          obtain ⟨hi4, hF⟩ := ck_ok hF
          refine ra_ld Z hP (ia_4_0 h0) hi4 dX4_firstHeard_23 ?_
          refine lv_iload_n hx hb dX4_firstHeard_24 rfl (lv_at hl 1 rfl) ?_
          refine lv_icmp_ne (tgt := 30) hx hb dX4_firstHeard_25 rfl (fun hc => ?_) (fun hc => ?_)
          · have hF := (if_neg hc).symm.trans hF
            exact hb30 _ hF _ _ _ (lv_sub hl [0, 1, 2] rfl) hP hS
          · have hF := (if_pos hc).symm.trans hF
            refine lv_iload_n hx hb dX4_firstHeard_28 rfl (lv_at hl 2 rfl) ?_
            exact ret_I Z hr hlk hP hS hF dX4_firstHeard_29
  refine lv_iconst (v := (0 : Int32)) hx hb dX4_firstHeard_0 ic_0 ?_
  refine lv_istore_n (lv' := [(2, .int (0 : Int32)), (0, .ref (g.1 v0)), (1, .int v1)]) hx hb dX4_firstHeard_1 rfl hl (Nat.le_of_ble_eq_true rfl) rfl (fun ls hl => ?_)
  exact (hL2 FU) _ hF _ _ _ (lv_sub hl [1, 2, 0] rfl) hP hS
theorem xX4_firstHeard {p : Program} {l : Launch} {e : Env} {R : Room} {s : State} {m : MethodId} {args : Array Value} {below : List Frame} {meth : Method} {c : Code} {H : Heap} {locs : List Loc} {Q : State → Prop} {cc : ByteArray} {nL : Nat} {own : String} {g : GG} {pc index : Nat} {ls : Array Slot} {rest : List Value} {mc mm : Mem} (Z : ZZ p s m args c cc nL own g) (hP : va_P g.2.2.1 vwCl (wL g mc mm) H) (hS : va_S (AA g s.heap.size) s.heap H locs) {v0 : Nat} {v1 : Int32} (h0 : isO 4 v0) {q : Int32} (hq : F4_firstHeard v0 v1 mc = some q) (hlk : Cond.methodLink own index yX4_firstHeard ∈ wsL_law) (hsz : ls.size = nL) (hro : (rest.map fun v => v.category).sum ≤ 8) (hR : 0 + 1 ≤ R.frames ∧ 8 + (3 + 11) + 0 ≤ R.locals) (hdg : decode cc pc = .ok (.invokevirtual index, 3)) (kk : ∀ (H : Heap) (locs : List Loc), va_P g.2.2.1 vwCl (wL g mc mm) H → va_S (AA g s.heap.size) s.heap H locs → W p l e R s m args below meth c H locs 0 0 Q (F0 m (pc + 3) ls (.int q :: rest))) : W p l e R s m args below meth c H locs 0 0 Q (F0 m pc ls (.int v1 :: .ref (g.1 v0) :: rest)) :=
  x_VI Z hP hS (kX4_firstHeard l g v0 v1 h0 mc mm q hq) (isO_w h0) (ci := 4) (by decide) rfl rfl mf_X4_firstHeard mv_X4_firstHeard hlk rfl rfl hsz hro hR hdg kk
theorem dX4_timesHeard_0 : decode cX4_timesHeard 0 = .ok (.iconst 0, 1) := by decide +kernel
theorem dX4_timesHeard_1 : decode cX4_timesHeard 1 = .ok (.istore_n 1, 1) := by decide +kernel
theorem dX4_timesHeard_2 : decode cX4_timesHeard 2 = .ok (.iconst 0, 1) := by decide +kernel
theorem dX4_timesHeard_3 : decode cX4_timesHeard 3 = .ok (.istore_n 2, 1) := by decide +kernel
theorem dX4_timesHeard_4 : decode cX4_timesHeard 4 = .ok (.iload_n 2, 1) := by decide +kernel
theorem dX4_timesHeard_5 : decode cX4_timesHeard 5 = .ok (.bipush 40, 2) := by decide +kernel
theorem dX4_timesHeard_7 : decode cX4_timesHeard 7 = .ok (.if_icmp .ge 18, 3) := by decide +kernel
theorem dX4_timesHeard_10 : decode cX4_timesHeard 10 = .ok (.iload_n 1, 1) := by decide +kernel
theorem dX4_timesHeard_11 : decode cX4_timesHeard 11 = .ok (.aload_n 0, 1) := by decide +kernel
theorem dX4_timesHeard_12 : decode cX4_timesHeard 12 = .ok (.getfield 21, 3) := by decide +kernel
theorem dX4_timesHeard_15 : decode cX4_timesHeard 15 = .ok (.iload_n 2, 1) := by decide +kernel
theorem dX4_timesHeard_16 : decode cX4_timesHeard 16 = .ok (.iaload, 1) := by decide +kernel
theorem dX4_timesHeard_17 : decode cX4_timesHeard 17 = .ok (.iadd, 1) := by decide +kernel
theorem dX4_timesHeard_18 : decode cX4_timesHeard 18 = .ok (.istore_n 1, 1) := by decide +kernel
theorem dX4_timesHeard_19 : decode cX4_timesHeard 19 = .ok (.iinc 2 1, 3) := by decide +kernel
theorem dX4_timesHeard_22 : decode cX4_timesHeard 22 = .ok (.goto (-18), 3) := by decide +kernel
theorem dX4_timesHeard_25 : decode cX4_timesHeard 25 = .ok (.iload_n 1, 1) := by decide +kernel
theorem dX4_timesHeard_26 : decode cX4_timesHeard 26 = .ok (.ireturn, 1) := by decide +kernel
noncomputable def F4_timesHeard_p4 (kh : Int32 → Int32 → Option (Int32)) (v0 : Nat) (mc : Mem) (a1 : Int32) (a2 : Int32) : Option (Int32) :=
  (if (40 : Int32) ≤ a2 then some a1 else (ck a2 40 (kh (a1 + (mc (v0 + 4) a2.toNatClampNeg)) (a2 + (1 : Int32)))))
noncomputable def F4_timesHeard_h4 (v0 : Nat) (mc : Mem) : Nat → Int32 → Int32 → Option (Int32)
  | 0, _, _ => none
  | n + 1, a1, a2 => F4_timesHeard_p4 (F4_timesHeard_h4 v0 mc n) v0 mc a1 a2
noncomputable def F4_timesHeard (v0 : Nat) (mc : Mem) : Option (Int32) :=
  (F4_timesHeard_h4 v0 mc FU) (0 : Int32) (0 : Int32)
set_option maxHeartbeats 4000000 in
set_option maxRecDepth 100000 in
theorem kX4_timesHeard (l : Launch) (g : GG) (v0 : Nat) (h0 : isO 4 v0) (mc mm : Mem) (q : Int32) (hF : F4_timesHeard v0 mc = some q) : KI l yX4_timesHeard cX4_timesHeard 3 .int 0 0 g [.ref (g.1 v0)] mc mm q (mc, mm) := by
  intro sz
  refine x_start (Qc := fun z => QI g z q (mc, mm)) (by decide +kernel) (Nat.le_of_ble_eq_true rfl) ?_ sz
  intro p e s m args below meth c ls Z hr hlk hP hl
  have hx := Z.1.1
  have hb := Z.1.2.1
  have hown := Z.1.2.2.2.1
  have hts := Z.1.2.2.2.2
  have hS : va_S (AA g s.heap.size) s.heap s.heap [] := va_S.rf
  have hl : lv_has ls 3 [(0, .ref (g.1 v0))] := hl
  unfold F4_timesHeard at hF
  have hL4 : ∀ n : Nat, ∀ (a1 : Int32) (a2 : Int32), F4_timesHeard_h4 v0 mc n a1 a2 = some q → ∀ (H : Heap) (locs : List Loc) (ls : Array Slot), lv_has ls 3 [(0, .ref (g.1 v0)), (1, .int a1), (2, .int a2)] → va_P g.2.2.1 vwCl (wL g mc mm) H → va_S (AA g s.heap.size) s.heap H locs → W p l e { frames := 0, cells := 0, slots := 0, locals := 0 } s m args below meth c H locs 0 0 (MQ below (QI g s.heap.size q (mc, mm)) args s 0 0 (AA g s.heap.size)) (F0 m 4 ls []) := by
    intro n
    induction n with
    | zero => intro a1 a2 hF H locs ls hl hP hS; exact absurd hF (fun z => nomatch (show (none : Option _) = some q from z))
    | succ n ih =>
      generalize hkh : F4_timesHeard_h4 v0 mc n = kh at ih
      intro a1 a2 hF H locs ls hl hP hS
      have hF : F4_timesHeard_p4 (F4_timesHeard_h4 v0 mc n) v0 mc a1 a2 = some q := hF
      rw [hkh] at hF
      unfold F4_timesHeard_p4 at hF
      refine lv_iload_n hx hb dX4_timesHeard_4 rfl (lv_at hl 2 rfl) ?_
      refine lv_bipush (v := (40 : Int32)) hx hb dX4_timesHeard_5 bp_40 ?_
      refine lv_icmp_ge (tgt := 25) hx hb dX4_timesHeard_7 rfl (fun hc => ?_) (fun hc => ?_)
      · have hF := (if_pos hc).symm.trans hF
        refine lv_iload_n hx hb dX4_timesHeard_25 rfl (lv_at hl 1 rfl) ?_
        exact ret_I Z hr hlk hP hS hF dX4_timesHeard_26
      · have hF := (if_neg hc).symm.trans hF
        refine lv_iload_n hx hb dX4_timesHeard_10 rfl (lv_at hl 1 rfl) ?_
        refine lv_aload_n hx hb dX4_timesHeard_11 rfl (lv_at hl 0 rfl) ?_
        refine gf4_3 Z hP h0 wd_5_17 dX4_timesHeard_12 ?_
        refine lv_iload_n hx hb dX4_timesHeard_15 rfl (lv_at hl 2 rfl) ?_
        obtain ⟨hi2, hF⟩ := ck_ok hF
        refine ra_ld Z hP (ia_4_3 h0) hi2 dX4_timesHeard_16 ?_
        refine lv_iadd hx hb dX4_timesHeard_17 ?_
        refine lv_istore_n (lv' := [(1, .int (a1 + (mc (v0 + 4) a2.toNatClampNeg))), (0, .ref (g.1 v0)), (2, .int a2)]) hx hb dX4_timesHeard_18 rfl hl (Nat.le_of_ble_eq_true rfl) rfl (fun ls hl => ?_)
        refine lv_iinc (lv' := [(2, .int (a2 + (1 : Int32))), (1, .int (a1 + (mc (v0 + 4) a2.toNatClampNeg))), (0, .ref (g.1 v0))]) (v := (a2 + (1 : Int32))) hx hb dX4_timesHeard_19 hl (k := 2) rfl (io_1 _) (Nat.le_of_ble_eq_true rfl) rfl (fun ls hl => ?_)
        refine lv_goto (tgt := 4) hx hb dX4_timesHeard_22 rfl ?_
        exact ih _ _ hF _ _ _ (lv_sub hl [2, 1, 0] rfl) hP hS
  refine lv_iconst (v := (0 : Int32)) hx hb dX4_timesHeard_0 ic_0 ?_
  refine lv_istore_n (lv' := [(1, .int (0 : Int32)), (0, .ref (g.1 v0))]) hx hb dX4_timesHeard_1 rfl hl (Nat.le_of_ble_eq_true rfl) rfl (fun ls hl => ?_)
  refine lv_iconst (v := (0 : Int32)) hx hb dX4_timesHeard_2 ic_0 ?_
  refine lv_istore_n (lv' := [(2, .int (0 : Int32)), (1, .int (0 : Int32)), (0, .ref (g.1 v0))]) hx hb dX4_timesHeard_3 rfl hl (Nat.le_of_ble_eq_true rfl) rfl (fun ls hl => ?_)
  exact (hL4 FU) _ _ hF _ _ _ (lv_sub hl [2, 1, 0] rfl) hP hS
theorem xX4_timesHeard {p : Program} {l : Launch} {e : Env} {R : Room} {s : State} {m : MethodId} {args : Array Value} {below : List Frame} {meth : Method} {c : Code} {H : Heap} {locs : List Loc} {Q : State → Prop} {cc : ByteArray} {nL : Nat} {own : String} {g : GG} {pc index : Nat} {ls : Array Slot} {rest : List Value} {mc mm : Mem} (Z : ZZ p s m args c cc nL own g) (hP : va_P g.2.2.1 vwCl (wL g mc mm) H) (hS : va_S (AA g s.heap.size) s.heap H locs) {v0 : Nat} (h0 : isO 4 v0) {q : Int32} (hq : F4_timesHeard v0 mc = some q) (hlk : Cond.methodLink own index yX4_timesHeard ∈ wsL_law) (hsz : ls.size = nL) (hro : (rest.map fun v => v.category).sum ≤ 8) (hR : 0 + 1 ≤ R.frames ∧ 8 + (3 + 11) + 0 ≤ R.locals) (hdg : decode cc pc = .ok (.invokevirtual index, 3)) (kk : ∀ (H : Heap) (locs : List Loc), va_P g.2.2.1 vwCl (wL g mc mm) H → va_S (AA g s.heap.size) s.heap H locs → W p l e R s m args below meth c H locs 0 0 Q (F0 m (pc + 3) ls (.int q :: rest))) : W p l e R s m args below meth c H locs 0 0 Q (F0 m pc ls (.ref (g.1 v0) :: rest)) :=
  x_VI Z hP hS (kX4_timesHeard l g v0 h0 mc mm q hq) (isO_w h0) (ci := 4) (by decide) rfl rfl mf_X4_timesHeard mv_X4_timesHeard hlk rfl rfl hsz hro hR hdg kk
theorem dX4_isGone_0 : decode cX4_isGone 0 = .ok (.aload_n 0, 1) := by decide +kernel
theorem dX4_isGone_1 : decode cX4_isGone 1 = .ok (.getfield 18, 3) := by decide +kernel
theorem dX4_isGone_4 : decode cX4_isGone 4 = .ok (.bipush 39, 2) := by decide +kernel
theorem dX4_isGone_6 : decode cX4_isGone 6 = .ok (.iaload, 1) := by decide +kernel
theorem dX4_isGone_7 : decode cX4_isGone 7 = .ok (.ifCond .ne 7, 3) := by decide +kernel
theorem dX4_isGone_10 : decode cX4_isGone 10 = .ok (.iconst 1, 1) := by decide +kernel
theorem dX4_isGone_11 : decode cX4_isGone 11 = .ok (.goto 4, 3) := by decide +kernel
theorem dX4_isGone_14 : decode cX4_isGone 14 = .ok (.iconst 0, 1) := by decide +kernel
theorem dX4_isGone_15 : decode cX4_isGone 15 = .ok (.ireturn, 1) := by decide +kernel
noncomputable def F4_isGone (v0 : Nat) (mc : Mem) : Option (Int32) :=
  (if (mc (v0 + 3) (39 : Int32).toNatClampNeg) = (0 : Int32) then some (1 : Int32) else some (0 : Int32))
set_option maxHeartbeats 4000000 in
set_option maxRecDepth 100000 in
theorem kX4_isGone (l : Launch) (g : GG) (v0 : Nat) (h0 : isO 4 v0) (mc mm : Mem) (q : Int32) (hF : F4_isGone v0 mc = some q) : KI l yX4_isGone cX4_isGone 1 .boolean 0 0 g [.ref (g.1 v0)] mc mm q (mc, mm) := by
  intro sz
  refine x_start (Qc := fun z => QI g z q (mc, mm)) (by decide +kernel) (Nat.le_of_ble_eq_true rfl) ?_ sz
  intro p e s m args below meth c ls Z hr hlk hP hl
  have hx := Z.1.1
  have hb := Z.1.2.1
  have hown := Z.1.2.2.2.1
  have hts := Z.1.2.2.2.2
  have hS : va_S (AA g s.heap.size) s.heap s.heap [] := va_S.rf
  have hl : lv_has ls 1 [(0, .ref (g.1 v0))] := hl
  unfold F4_isGone at hF
  refine lv_aload_n hx hb dX4_isGone_0 rfl (lv_at hl 0 rfl) ?_
  refine gf4_2 Z hP h0 wd_5_16 dX4_isGone_1 ?_
  refine lv_bipush (v := (39 : Int32)) hx hb dX4_isGone_4 bp_39 ?_
  refine ra_ld Z hP (ia_4_2 h0) (inl (by decide)) dX4_isGone_6 ?_
  refine lv_if_ne (tgt := 14) hx hb dX4_isGone_7 rfl (fun hc => ?_) (fun hc => ?_)
  · have hF := (if_neg hc).symm.trans hF
    refine lv_iconst (v := (0 : Int32)) hx hb dX4_isGone_14 ic_0 ?_
    exact ret_Z Z hr hlk hP hS (Or.inl rfl) hF dX4_isGone_15
  · have hF := (if_pos hc).symm.trans hF
    refine lv_iconst (v := (1 : Int32)) hx hb dX4_isGone_10 ic_1 ?_
    refine lv_goto (tgt := 15) hx hb dX4_isGone_11 rfl ?_
    exact ret_Z Z hr hlk hP hS (Or.inr rfl) hF dX4_isGone_15
theorem xX4_isGone {p : Program} {l : Launch} {e : Env} {R : Room} {s : State} {m : MethodId} {args : Array Value} {below : List Frame} {meth : Method} {c : Code} {H : Heap} {locs : List Loc} {Q : State → Prop} {cc : ByteArray} {nL : Nat} {own : String} {g : GG} {pc index : Nat} {ls : Array Slot} {rest : List Value} {mc mm : Mem} (Z : ZZ p s m args c cc nL own g) (hP : va_P g.2.2.1 vwCl (wL g mc mm) H) (hS : va_S (AA g s.heap.size) s.heap H locs) {v0 : Nat} (h0 : isO 4 v0) {q : Int32} (hq : F4_isGone v0 mc = some q) (hlk : Cond.methodLink own index yX4_isGone ∈ wsL_law) (hsz : ls.size = nL) (hro : (rest.map fun v => v.category).sum ≤ 8) (hR : 0 + 1 ≤ R.frames ∧ 8 + (1 + 11) + 0 ≤ R.locals) (hdg : decode cc pc = .ok (.invokevirtual index, 3)) (kk : ∀ (H : Heap) (locs : List Loc), va_P g.2.2.1 vwCl (wL g mc mm) H → va_S (AA g s.heap.size) s.heap H locs → W p l e R s m args below meth c H locs 0 0 Q (F0 m (pc + 3) ls (.int q :: rest))) : W p l e R s m args below meth c H locs 0 0 Q (F0 m pc ls (.ref (g.1 v0) :: rest)) :=
  x_VI Z hP hS (kX4_isGone l g v0 h0 mc mm q hq) (isO_w h0) (ci := 4) (by decide) rfl rfl mf_X4_isGone mv_X4_isGone hlk rfl rfl hsz hro hR hdg kk
theorem dX7_sign_0 : decode cX7_sign 0 = .ok (.iload_n 1, 1) := by decide +kernel
theorem dX7_sign_1 : decode cX7_sign 1 = .ok (.aload_n 0, 1) := by decide +kernel
theorem dX7_sign_2 : decode cX7_sign 2 = .ok (.getfield 25, 3) := by decide +kernel
theorem dX7_sign_5 : decode cX7_sign 5 = .ok (.invokestatic 28, 3) := by decide +kernel
theorem dX7_sign_8 : decode cX7_sign 8 = .ok (.ifCond .eq 17, 3) := by decide +kernel
theorem dX7_sign_11 : decode cX7_sign 11 = .ok (.aload_n 2, 1) := by decide +kernel
theorem dX7_sign_12 : decode cX7_sign 12 = .ok (.aload_n 0, 1) := by decide +kernel
theorem dX7_sign_13 : decode cX7_sign 13 = .ok (.getfield 21, 3) := by decide +kernel
theorem dX7_sign_16 : decode cX7_sign 16 = .ok (.iload_n 1, 1) := by decide +kernel
theorem dX7_sign_17 : decode cX7_sign 17 = .ok (.iaload, 1) := by decide +kernel
theorem dX7_sign_18 : decode cX7_sign 18 = .ok (.i2c, 1) := by decide +kernel
theorem dX7_sign_19 : decode cX7_sign 19 = .ok (.invokevirtual 32, 3) := by decide +kernel
theorem dX7_sign_22 : decode cX7_sign 22 = .ok (.goto 4, 3) := by decide +kernel
theorem dX7_sign_25 : decode cX7_sign 25 = .ok (.iconst (-1), 1) := by decide +kernel
theorem dX7_sign_26 : decode cX7_sign 26 = .ok (.ireturn, 1) := by decide +kernel
noncomputable def F7_sign (v0 : Nat) (v1 : Int32) (v2 : Nat) (mc : Mem) : Option (Int32) :=
  ((F9_in v1 (mc v0 1)).bind (fun q4 => (if q4 = (0 : Int32) then some (-1 : Int32) else (ck v1 (ln (v0 + 1)) ((F0_indexOf_0f7a4 v2 (((mc (v0 + 1) v1.toNatClampNeg).toUInt32 % 65536).toInt32)).bind (fun q6 => (some q6)))))))
set_option maxHeartbeats 4000000 in
set_option maxRecDepth 100000 in
theorem kX7_sign (l : Launch) (g : GG) (v0 : Nat) (v1 : Int32) (v2 : Nat) (h0 : isO 7 v0) (h2 : v2 < 7) (mc mm : Mem) (q : Int32) (hF : F7_sign v0 v1 v2 mc = some q) : KI l yX7_sign cX7_sign 3 .int 5 141 g [.ref (g.1 v0), .int v1, .ref (g.2.2.2.1 v2)] mc mm q (mc, mm) := by
  intro sz
  refine x_start (Qc := fun z => QI g z q (mc, mm)) (by decide +kernel) (Nat.le_of_ble_eq_true rfl) ?_ sz
  intro p e s m args below meth c ls Z hr hlk hP hl
  have hx := Z.1.1
  have hb := Z.1.2.1
  have hown := Z.1.2.2.2.1
  have hts := Z.1.2.2.2.2
  have hS : va_S (AA g s.heap.size) s.heap s.heap [] := va_S.rf
  have hl : lv_has ls 3 [(0, .ref (g.1 v0)), (1, .int v1), (2, .ref (g.2.2.2.1 v2))] := hl
  unfold F7_sign at hF
  refine lv_iload_n hx hb dX7_sign_0 rfl (lv_at hl 1 rfl) ?_
  refine lv_aload_n hx hb dX7_sign_1 rfl (lv_at hl 0 rfl) ?_
  refine gf7_1 Z hP h0 wd_7_14 dX7_sign_2 ?_
  obtain ⟨q4, hq4, hF⟩ := bd_ok hF
  refine xX9_inN Z hP hS hq4 nm_12 hl.1 (Nat.le_of_ble_eq_true rfl) ⟨Nat.le_of_ble_eq_true rfl, Nat.le_of_ble_eq_true rfl⟩ dX7_sign_5 (fun H locs hP hS => ?_)
  refine lv_if_eq (tgt := 25) hx hb dX7_sign_8 rfl (fun hc => ?_) (fun hc => ?_)
  · have hF := (if_pos hc).symm.trans hF
    refine lv_iconst (v := (-1 : Int32)) hx hb dX7_sign_25 ic_m1 ?_
    exact ret_I Z hr hlk hP hS hF dX7_sign_26
  · have hF := (if_neg hc).symm.trans hF
    refine lv_aload_n hx hb dX7_sign_11 rfl (lv_at hl 2 rfl) ?_
    refine lv_aload_n hx hb dX7_sign_12 rfl (lv_at hl 0 rfl) ?_
    refine gf7_0 Z hP h0 wd_3_18 dX7_sign_13 ?_
    refine lv_iload_n hx hb dX7_sign_16 rfl (lv_at hl 1 rfl) ?_
    obtain ⟨hi5, hF⟩ := ck_ok hF
    refine ra_ld Z hP (ia_7_0 h0) hi5 dX7_sign_17 ?_
    refine lv_i2c (v := ((mc (v0 + 1) v1.toNatClampNeg).toUInt32 % 65536).toInt32) hx hb dX7_sign_18 rfl ?_
    obtain ⟨q6, hq6, hF⟩ := bd_ok hF
    refine xJ0_indexOf_0f7a4 Z hP hS h2 hq6 wd_8_8 hl.1 (Nat.le_of_ble_eq_true rfl) ⟨Nat.le_of_ble_eq_true rfl, Nat.le_of_ble_eq_true rfl⟩ dX7_sign_19 (fun H locs hP hS => ?_)
    refine lv_goto (tgt := 26) hx hb dX7_sign_22 rfl ?_
    exact ret_I Z hr hlk hP hS hF dX7_sign_26
theorem xX7_sign {p : Program} {l : Launch} {e : Env} {R : Room} {s : State} {m : MethodId} {args : Array Value} {below : List Frame} {meth : Method} {c : Code} {H : Heap} {locs : List Loc} {Q : State → Prop} {cc : ByteArray} {nL : Nat} {own : String} {g : GG} {pc index : Nat} {ls : Array Slot} {rest : List Value} {mc mm : Mem} (Z : ZZ p s m args c cc nL own g) (hP : va_P g.2.2.1 vwCl (wL g mc mm) H) (hS : va_S (AA g s.heap.size) s.heap H locs) {v0 : Nat} {v1 : Int32} {v2 : Nat} (h0 : isO 7 v0) (h2 : v2 < 7) {q : Int32} (hq : F7_sign v0 v1 v2 mc = some q) (hlk : Cond.methodLink own index yX7_sign ∈ wsL_law) (hsz : ls.size = nL) (hro : (rest.map fun v => v.category).sum ≤ 8) (hR : 5 + 1 ≤ R.frames ∧ 8 + (3 + 11) + 141 ≤ R.locals) (hdg : decode cc pc = .ok (.invokevirtual index, 3)) (kk : ∀ (H : Heap) (locs : List Loc), va_P g.2.2.1 vwCl (wL g mc mm) H → va_S (AA g s.heap.size) s.heap H locs → W p l e R s m args below meth c H locs 0 0 Q (F0 m (pc + 3) ls (.int q :: rest))) : W p l e R s m args below meth c H locs 0 0 Q (F0 m pc ls (.ref (g.2.2.2.1 v2) :: .int v1 :: .ref (g.1 v0) :: rest)) :=
  x_VI Z hP hS (kX7_sign l g v0 v1 v2 h0 h2 mc mm q hq) (isO_w h0) (ci := 7) (by decide) rfl rfl mf_X7_sign mv_X7_sign hlk rfl rfl hsz hro hR hdg kk
theorem dX5_takeHead_0 : decode cX5_takeHead 0 = .ok (.aload_n 0, 1) := by decide +kernel
theorem dX5_takeHead_1 : decode cX5_takeHead 1 = .ok (.getfield 9, 3) := by decide +kernel
theorem dX5_takeHead_4 : decode cX5_takeHead 4 = .ok (.iload_n 3, 1) := by decide +kernel
theorem dX5_takeHead_5 : decode cX5_takeHead 5 = .ok (.aload_n 1, 1) := by decide +kernel
theorem dX5_takeHead_6 : decode cX5_takeHead 6 = .ok (.iload_n 2, 1) := by decide +kernel
theorem dX5_takeHead_7 : decode cX5_takeHead 7 = .ok (.ldc 53, 2) := by decide +kernel
theorem dX5_takeHead_9 : decode cX5_takeHead 9 = .ok (.invokevirtual 49, 3) := by decide +kernel
theorem dX5_takeHead_12 : decode cX5_takeHead 12 = .ok (.iastore, 1) := by decide +kernel
theorem dX5_takeHead_13 : decode cX5_takeHead 13 = .ok (.aload_n 0, 1) := by decide +kernel
theorem dX5_takeHead_14 : decode cX5_takeHead 14 = .ok (.getfield 9, 3) := by decide +kernel
theorem dX5_takeHead_17 : decode cX5_takeHead 17 = .ok (.iload_n 3, 1) := by decide +kernel
theorem dX5_takeHead_18 : decode cX5_takeHead 18 = .ok (.iaload, 1) := by decide +kernel
theorem dX5_takeHead_19 : decode cX5_takeHead 19 = .ok (.iconst (-1), 1) := by decide +kernel
theorem dX5_takeHead_20 : decode cX5_takeHead 20 = .ok (.if_icmp .ne 5, 3) := by decide +kernel
theorem dX5_takeHead_23 : decode cX5_takeHead 23 = .ok (.iload_n 2, 1) := by decide +kernel
theorem dX5_takeHead_24 : decode cX5_takeHead 24 = .ok (.ireturn, 1) := by decide +kernel
theorem dX5_takeHead_25 : decode cX5_takeHead 25 = .ok (.aload_n 0, 1) := by decide +kernel
theorem dX5_takeHead_26 : decode cX5_takeHead 26 = .ok (.getfield 15, 3) := by decide +kernel
theorem dX5_takeHead_29 : decode cX5_takeHead 29 = .ok (.iload_n 3, 1) := by decide +kernel
theorem dX5_takeHead_30 : decode cX5_takeHead 30 = .ok (.aload_n 1, 1) := by decide +kernel
theorem dX5_takeHead_31 : decode cX5_takeHead 31 = .ok (.iload_n 2, 1) := by decide +kernel
theorem dX5_takeHead_32 : decode cX5_takeHead 32 = .ok (.iconst 1, 1) := by decide +kernel
theorem dX5_takeHead_33 : decode cX5_takeHead 33 = .ok (.iadd, 1) := by decide +kernel
theorem dX5_takeHead_34 : decode cX5_takeHead 34 = .ok (.ldc 55, 2) := by decide +kernel
theorem dX5_takeHead_36 : decode cX5_takeHead 36 = .ok (.invokevirtual 49, 3) := by decide +kernel
theorem dX5_takeHead_39 : decode cX5_takeHead 39 = .ok (.iastore, 1) := by decide +kernel
theorem dX5_takeHead_40 : decode cX5_takeHead 40 = .ok (.aload_n 0, 1) := by decide +kernel
theorem dX5_takeHead_41 : decode cX5_takeHead 41 = .ok (.getfield 15, 3) := by decide +kernel
theorem dX5_takeHead_44 : decode cX5_takeHead 44 = .ok (.iload_n 3, 1) := by decide +kernel
theorem dX5_takeHead_45 : decode cX5_takeHead 45 = .ok (.iaload, 1) := by decide +kernel
theorem dX5_takeHead_46 : decode cX5_takeHead 46 = .ok (.iconst (-1), 1) := by decide +kernel
theorem dX5_takeHead_47 : decode cX5_takeHead 47 = .ok (.if_icmp .ne 7, 3) := by decide +kernel
theorem dX5_takeHead_50 : decode cX5_takeHead 50 = .ok (.iload_n 2, 1) := by decide +kernel
theorem dX5_takeHead_51 : decode cX5_takeHead 51 = .ok (.iconst 1, 1) := by decide +kernel
theorem dX5_takeHead_52 : decode cX5_takeHead 52 = .ok (.iadd, 1) := by decide +kernel
theorem dX5_takeHead_53 : decode cX5_takeHead 53 = .ok (.ireturn, 1) := by decide +kernel
theorem dX5_takeHead_54 : decode cX5_takeHead 54 = .ok (.aload_n 0, 1) := by decide +kernel
theorem dX5_takeHead_55 : decode cX5_takeHead 55 = .ok (.getfield 18, 3) := by decide +kernel
theorem dX5_takeHead_58 : decode cX5_takeHead 58 = .ok (.iload_n 3, 1) := by decide +kernel
theorem dX5_takeHead_59 : decode cX5_takeHead 59 = .ok (.aload_n 1, 1) := by decide +kernel
theorem dX5_takeHead_60 : decode cX5_takeHead 60 = .ok (.iload_n 2, 1) := by decide +kernel
theorem dX5_takeHead_61 : decode cX5_takeHead 61 = .ok (.iconst 2, 1) := by decide +kernel
theorem dX5_takeHead_62 : decode cX5_takeHead 62 = .ok (.iadd, 1) := by decide +kernel
theorem dX5_takeHead_63 : decode cX5_takeHead 63 = .ok (.ldc 57, 2) := by decide +kernel
theorem dX5_takeHead_65 : decode cX5_takeHead 65 = .ok (.invokevirtual 49, 3) := by decide +kernel
theorem dX5_takeHead_68 : decode cX5_takeHead 68 = .ok (.iastore, 1) := by decide +kernel
theorem dX5_takeHead_69 : decode cX5_takeHead 69 = .ok (.aload_n 0, 1) := by decide +kernel
theorem dX5_takeHead_70 : decode cX5_takeHead 70 = .ok (.getfield 18, 3) := by decide +kernel
theorem dX5_takeHead_73 : decode cX5_takeHead 73 = .ok (.iload_n 3, 1) := by decide +kernel
theorem dX5_takeHead_74 : decode cX5_takeHead 74 = .ok (.iaload, 1) := by decide +kernel
theorem dX5_takeHead_75 : decode cX5_takeHead 75 = .ok (.iconst (-1), 1) := by decide +kernel
theorem dX5_takeHead_76 : decode cX5_takeHead 76 = .ok (.if_icmp .ne 9, 3) := by decide +kernel
theorem dX5_takeHead_79 : decode cX5_takeHead 79 = .ok (.iload_n 2, 1) := by decide +kernel
theorem dX5_takeHead_80 : decode cX5_takeHead 80 = .ok (.iconst 2, 1) := by decide +kernel
theorem dX5_takeHead_81 : decode cX5_takeHead 81 = .ok (.iadd, 1) := by decide +kernel
theorem dX5_takeHead_82 : decode cX5_takeHead 82 = .ok (.goto 4, 3) := by decide +kernel
theorem dX5_takeHead_85 : decode cX5_takeHead 85 = .ok (.iconst (-1), 1) := by decide +kernel
theorem dX5_takeHead_86 : decode cX5_takeHead 86 = .ok (.ireturn, 1) := by decide +kernel
noncomputable def F5_takeHead (v0 : Nat) (v1 : Nat) (v2 : Int32) (v3 : Int32) (mc : Mem) : Option (Int32 × Mem) :=
  ((F7_sign v1 v2 1 mc).bind (fun q13 => (ck v3 8 (lt (mset mc (v0 + 1) v3.toNatClampNeg q13) (fun M15 => (ck v3 8 (if (M15 (v0 + 1) v3.toNatClampNeg) = (-1 : Int32) then some (v2, M15) else ((F7_sign v1 (v2 + (1 : Int32)) 2 M15).bind (fun q17 => (ck v3 8 (lt (mset M15 (v0 + 2) v3.toNatClampNeg q17) (fun M19 => (ck v3 8 (if (M19 (v0 + 2) v3.toNatClampNeg) = (-1 : Int32) then some ((v2 + (1 : Int32)), M19) else ((F7_sign v1 (v2 + (2 : Int32)) 3 M19).bind (fun q21 => (ck v3 8 (lt (mset M19 (v0 + 3) v3.toNatClampNeg q21) (fun M23 => (ck v3 8 (if (M23 (v0 + 3) v3.toNatClampNeg) = (-1 : Int32) then some ((v2 + (2 : Int32)), M23) else some ((-1 : Int32), M23))))))))))))))))))))))
set_option maxHeartbeats 4000000 in
set_option maxRecDepth 100000 in
theorem kX5_takeHead (l : Launch) (g : GG) (v0 : Nat) (v1 : Nat) (v2 : Int32) (v3 : Int32) (h0 : isO 5 v0) (h1 : isO 7 v1) (mc mm : Mem) (q : Int32 × Mem) (hF : F5_takeHead v0 v1 v2 v3 mc = some q) : KI l yX5_takeHead cX5_takeHead 4 .int 6 163 g [.ref (g.1 v0), .ref (g.1 v1), .int v2, .int v3] mc mm q.1 (q.2, mm) := by
  intro sz
  refine x_start (Qc := fun z => QI g z q.1 (q.2, mm)) (by decide +kernel) (Nat.le_of_ble_eq_true rfl) ?_ sz
  intro p e s m args below meth c ls Z hr hlk hP hl
  have hx := Z.1.1
  have hb := Z.1.2.1
  have hown := Z.1.2.2.2.1
  have hts := Z.1.2.2.2.2
  have hS : va_S (AA g s.heap.size) s.heap s.heap [] := va_S.rf
  have hl : lv_has ls 4 [(0, .ref (g.1 v0)), (1, .ref (g.1 v1)), (2, .int v2), (3, .int v3)] := hl
  unfold F5_takeHead at hF
  refine lv_aload_n hx hb dX5_takeHead_0 rfl (lv_at hl 0 rfl) ?_
  refine gf5_0 Z hP h0 wd_4_6 dX5_takeHead_1 ?_
  refine lv_iload_n hx hb dX5_takeHead_4 rfl (lv_at hl 3 rfl) ?_
  refine lv_aload_n hx hb dX5_takeHead_5 rfl (lv_at hl 1 rfl) ?_
  refine lv_iload_n hx hb dX5_takeHead_6 rfl (lv_at hl 2 rfl) ?_
  refine va_ldcS hx hb hown (Z.2.1.2.2.2 _ ks_1) dX5_takeHead_7 ?_
  obtain ⟨q13, hq13, hF⟩ := bd_ok hF
  refine xX7_sign Z hP hS h1 (by decide) hq13 wd_12_15 hl.1 (Nat.le_of_ble_eq_true rfl) ⟨Nat.le_of_ble_eq_true rfl, Nat.le_of_ble_eq_true rfl⟩ dX5_takeHead_9 (fun H locs hP hS => ?_)
  obtain ⟨hi14, hF⟩ := ck_ok hF
  refine ra_st Z hP hS (ia_5_0 h0) hi14 dX5_takeHead_12 (fun H locs hP hS => ?_)
  refine lv_aload_n hx hb dX5_takeHead_13 rfl (lv_at hl 0 rfl) ?_
  refine gf5_0 Z hP h0 wd_4_6 dX5_takeHead_14 ?_
  refine lv_iload_n hx hb dX5_takeHead_17 rfl (lv_at hl 3 rfl) ?_
  obtain ⟨M15, eM15, hF⟩ := lt_ok hF
  have hP : va_P g.2.2.1 vwCl (wL g M15 mm) H := by rw [eM15]; exact hP
  obtain ⟨hi16, hF⟩ := ck_ok hF
  refine ra_ld Z hP (ia_5_0 h0) hi16 dX5_takeHead_18 ?_
  refine lv_iconst (v := (-1 : Int32)) hx hb dX5_takeHead_19 ic_m1 ?_
  refine lv_icmp_ne (tgt := 25) hx hb dX5_takeHead_20 rfl (fun hc => ?_) (fun hc => ?_)
  · have hF := (if_neg hc).symm.trans hF
    refine lv_aload_n hx hb dX5_takeHead_25 rfl (lv_at hl 0 rfl) ?_
    refine gf5_1 Z hP h0 wd_4_7 dX5_takeHead_26 ?_
    refine lv_iload_n hx hb dX5_takeHead_29 rfl (lv_at hl 3 rfl) ?_
    refine lv_aload_n hx hb dX5_takeHead_30 rfl (lv_at hl 1 rfl) ?_
    refine lv_iload_n hx hb dX5_takeHead_31 rfl (lv_at hl 2 rfl) ?_
    refine lv_iconst (v := (1 : Int32)) hx hb dX5_takeHead_32 ic_1 ?_
    refine lv_iadd hx hb dX5_takeHead_33 ?_
    refine va_ldcS hx hb hown (Z.2.1.2.2.2 _ ks_2) dX5_takeHead_34 ?_
    obtain ⟨q17, hq17, hF⟩ := bd_ok hF
    refine xX7_sign Z hP hS h1 (by decide) hq17 wd_12_15 hl.1 (Nat.le_of_ble_eq_true rfl) ⟨Nat.le_of_ble_eq_true rfl, Nat.le_of_ble_eq_true rfl⟩ dX5_takeHead_36 (fun H locs hP hS => ?_)
    obtain ⟨hi18, hF⟩ := ck_ok hF
    refine ra_st Z hP hS (ia_5_1 h0) hi18 dX5_takeHead_39 (fun H locs hP hS => ?_)
    refine lv_aload_n hx hb dX5_takeHead_40 rfl (lv_at hl 0 rfl) ?_
    refine gf5_1 Z hP h0 wd_4_7 dX5_takeHead_41 ?_
    refine lv_iload_n hx hb dX5_takeHead_44 rfl (lv_at hl 3 rfl) ?_
    obtain ⟨M19, eM19, hF⟩ := lt_ok hF
    have hP : va_P g.2.2.1 vwCl (wL g M19 mm) H := by rw [eM19]; exact hP
    obtain ⟨hi20, hF⟩ := ck_ok hF
    refine ra_ld Z hP (ia_5_1 h0) hi20 dX5_takeHead_45 ?_
    refine lv_iconst (v := (-1 : Int32)) hx hb dX5_takeHead_46 ic_m1 ?_
    refine lv_icmp_ne (tgt := 54) hx hb dX5_takeHead_47 rfl (fun hc => ?_) (fun hc => ?_)
    · have hF := (if_neg hc).symm.trans hF
      refine lv_aload_n hx hb dX5_takeHead_54 rfl (lv_at hl 0 rfl) ?_
      refine gf5_2 Z hP h0 wd_4_8 dX5_takeHead_55 ?_
      refine lv_iload_n hx hb dX5_takeHead_58 rfl (lv_at hl 3 rfl) ?_
      refine lv_aload_n hx hb dX5_takeHead_59 rfl (lv_at hl 1 rfl) ?_
      refine lv_iload_n hx hb dX5_takeHead_60 rfl (lv_at hl 2 rfl) ?_
      refine lv_iconst (v := (2 : Int32)) hx hb dX5_takeHead_61 ic_2 ?_
      refine lv_iadd hx hb dX5_takeHead_62 ?_
      refine va_ldcS hx hb hown (Z.2.1.2.2.2 _ ks_3) dX5_takeHead_63 ?_
      obtain ⟨q21, hq21, hF⟩ := bd_ok hF
      refine xX7_sign Z hP hS h1 (by decide) hq21 wd_12_15 hl.1 (Nat.le_of_ble_eq_true rfl) ⟨Nat.le_of_ble_eq_true rfl, Nat.le_of_ble_eq_true rfl⟩ dX5_takeHead_65 (fun H locs hP hS => ?_)
      obtain ⟨hi22, hF⟩ := ck_ok hF
      refine ra_st Z hP hS (ia_5_2 h0) hi22 dX5_takeHead_68 (fun H locs hP hS => ?_)
      refine lv_aload_n hx hb dX5_takeHead_69 rfl (lv_at hl 0 rfl) ?_
      refine gf5_2 Z hP h0 wd_4_8 dX5_takeHead_70 ?_
      refine lv_iload_n hx hb dX5_takeHead_73 rfl (lv_at hl 3 rfl) ?_
      obtain ⟨M23, eM23, hF⟩ := lt_ok hF
      have hP : va_P g.2.2.1 vwCl (wL g M23 mm) H := by rw [eM23]; exact hP
      obtain ⟨hi24, hF⟩ := ck_ok hF
      refine ra_ld Z hP (ia_5_2 h0) hi24 dX5_takeHead_74 ?_
      refine lv_iconst (v := (-1 : Int32)) hx hb dX5_takeHead_75 ic_m1 ?_
      refine lv_icmp_ne (tgt := 85) hx hb dX5_takeHead_76 rfl (fun hc => ?_) (fun hc => ?_)
      · have hF := (if_neg hc).symm.trans hF
        refine lv_iconst (v := (-1 : Int32)) hx hb dX5_takeHead_85 ic_m1 ?_
        exact ret_IWC Z hr hlk hP hS hF dX5_takeHead_86
      · have hF := (if_pos hc).symm.trans hF
        refine lv_iload_n hx hb dX5_takeHead_79 rfl (lv_at hl 2 rfl) ?_
        refine lv_iconst (v := (2 : Int32)) hx hb dX5_takeHead_80 ic_2 ?_
        refine lv_iadd hx hb dX5_takeHead_81 ?_
        refine lv_goto (tgt := 86) hx hb dX5_takeHead_82 rfl ?_
        exact ret_IWC Z hr hlk hP hS hF dX5_takeHead_86
    · have hF := (if_pos hc).symm.trans hF
      refine lv_iload_n hx hb dX5_takeHead_50 rfl (lv_at hl 2 rfl) ?_
      refine lv_iconst (v := (1 : Int32)) hx hb dX5_takeHead_51 ic_1 ?_
      refine lv_iadd hx hb dX5_takeHead_52 ?_
      exact ret_IWC Z hr hlk hP hS hF dX5_takeHead_53
  · have hF := (if_pos hc).symm.trans hF
    refine lv_iload_n hx hb dX5_takeHead_23 rfl (lv_at hl 2 rfl) ?_
    exact ret_IWC Z hr hlk hP hS hF dX5_takeHead_24
theorem xX5_takeHead {p : Program} {l : Launch} {e : Env} {R : Room} {s : State} {m : MethodId} {args : Array Value} {below : List Frame} {meth : Method} {c : Code} {H : Heap} {locs : List Loc} {Q : State → Prop} {cc : ByteArray} {nL : Nat} {own : String} {g : GG} {pc index : Nat} {ls : Array Slot} {rest : List Value} {mc mm : Mem} (Z : ZZ p s m args c cc nL own g) (hP : va_P g.2.2.1 vwCl (wL g mc mm) H) (hS : va_S (AA g s.heap.size) s.heap H locs) {v0 : Nat} {v1 : Nat} {v2 : Int32} {v3 : Int32} (h0 : isO 5 v0) (h1 : isO 7 v1) {q : Int32 × Mem} (hq : F5_takeHead v0 v1 v2 v3 mc = some q) (hlk : Cond.methodLink own index yX5_takeHead ∈ wsL_law) (hsz : ls.size = nL) (hro : (rest.map fun v => v.category).sum ≤ 8) (hR : 6 + 1 ≤ R.frames ∧ 8 + (4 + 11) + 163 ≤ R.locals) (hdg : decode cc pc = .ok (.invokevirtual index, 3)) (kk : ∀ (H : Heap) (locs : List Loc), va_P g.2.2.1 vwCl (wL g q.2 mm) H → va_S (AA g s.heap.size) s.heap H locs → W p l e R s m args below meth c H locs 0 0 Q (F0 m (pc + 3) ls (.int q.1 :: rest))) : W p l e R s m args below meth c H locs 0 0 Q (F0 m pc ls (.int v3 :: .int v2 :: .ref (g.1 v1) :: .ref (g.1 v0) :: rest)) :=
  x_VI Z hP hS (kX5_takeHead l g v0 v1 v2 v3 h0 h1 mc mm q hq) (isO_w h0) (ci := 5) (by decide) rfl rfl mf_X5_takeHead mv_X5_takeHead hlk rfl rfl hsz hro hR hdg kk
theorem dX5_takeWord_0 : decode cX5_takeWord 0 = .ok (.iconst 0, 1) := by decide +kernel
theorem dX5_takeWord_1 : decode cX5_takeWord 1 = .ok (.istore 4, 2) := by decide +kernel
theorem dX5_takeWord_3 : decode cX5_takeWord 3 = .ok (.iload 4, 2) := by decide +kernel
theorem dX5_takeWord_5 : decode cX5_takeWord 5 = .ok (.iconst 4, 1) := by decide +kernel
theorem dX5_takeWord_6 : decode cX5_takeWord 6 = .ok (.if_icmp .ge 43, 3) := by decide +kernel
theorem dX5_takeWord_9 : decode cX5_takeWord 9 = .ok (.aload_n 1, 1) := by decide +kernel
theorem dX5_takeWord_10 : decode cX5_takeWord 10 = .ok (.iload_n 2, 1) := by decide +kernel
theorem dX5_takeWord_11 : decode cX5_takeWord 11 = .ok (.iload 4, 2) := by decide +kernel
theorem dX5_takeWord_13 : decode cX5_takeWord 13 = .ok (.iadd, 1) := by decide +kernel
theorem dX5_takeWord_14 : decode cX5_takeWord 14 = .ok (.ldc 59, 2) := by decide +kernel
theorem dX5_takeWord_16 : decode cX5_takeWord 16 = .ok (.invokevirtual 49, 3) := by decide +kernel
theorem dX5_takeWord_19 : decode cX5_takeWord 19 = .ok (.istore 5, 2) := by decide +kernel
theorem dX5_takeWord_21 : decode cX5_takeWord 21 = .ok (.iload 5, 2) := by decide +kernel
theorem dX5_takeWord_23 : decode cX5_takeWord 23 = .ok (.iconst (-1), 1) := by decide +kernel
theorem dX5_takeWord_24 : decode cX5_takeWord 24 = .ok (.if_icmp .ne 6, 3) := by decide +kernel
theorem dX5_takeWord_27 : decode cX5_takeWord 27 = .ok (.iload 4, 2) := by decide +kernel
theorem dX5_takeWord_29 : decode cX5_takeWord 29 = .ok (.ireturn, 1) := by decide +kernel
theorem dX5_takeWord_30 : decode cX5_takeWord 30 = .ok (.aload_n 0, 1) := by decide +kernel
theorem dX5_takeWord_31 : decode cX5_takeWord 31 = .ok (.getfield 24, 3) := by decide +kernel
theorem dX5_takeWord_34 : decode cX5_takeWord 34 = .ok (.iload_n 3, 1) := by decide +kernel
theorem dX5_takeWord_35 : decode cX5_takeWord 35 = .ok (.iconst 4, 1) := by decide +kernel
theorem dX5_takeWord_36 : decode cX5_takeWord 36 = .ok (.imul, 1) := by decide +kernel
theorem dX5_takeWord_37 : decode cX5_takeWord 37 = .ok (.iload 4, 2) := by decide +kernel
theorem dX5_takeWord_39 : decode cX5_takeWord 39 = .ok (.iadd, 1) := by decide +kernel
theorem dX5_takeWord_40 : decode cX5_takeWord 40 = .ok (.iload 5, 2) := by decide +kernel
theorem dX5_takeWord_42 : decode cX5_takeWord 42 = .ok (.iastore, 1) := by decide +kernel
theorem dX5_takeWord_43 : decode cX5_takeWord 43 = .ok (.iinc 4 1, 3) := by decide +kernel
theorem dX5_takeWord_46 : decode cX5_takeWord 46 = .ok (.goto (-43), 3) := by decide +kernel
theorem dX5_takeWord_49 : decode cX5_takeWord 49 = .ok (.iconst 4, 1) := by decide +kernel
theorem dX5_takeWord_50 : decode cX5_takeWord 50 = .ok (.ireturn, 1) := by decide +kernel
noncomputable def F5_takeWord_p3 (kh : Int32 → Mem → Option (Int32 × Mem)) (v0 : Nat) (v1 : Nat) (v2 : Int32) (v3 : Int32) (a4 : Int32) (M : Mem) : Option (Int32 × Mem) :=
  (if (4 : Int32) ≤ a4 then some ((4 : Int32), M) else ((F7_sign v1 (v2 + a4) 4 M).bind (fun q3 => (if q3 = (-1 : Int32) then some (a4, M) else (ck ((v3 * (4 : Int32)) + a4) 32 (kh (a4 + (1 : Int32)) (mset M (v0 + 5) ((v3 * (4 : Int32)) + a4).toNatClampNeg q3)))))))
noncomputable def F5_takeWord_h3 (v0 : Nat) (v1 : Nat) (v2 : Int32) (v3 : Int32) : Nat → Int32 → Mem → Option (Int32 × Mem)
  | 0, _, _ => none
  | n + 1, a4, M => F5_takeWord_p3 (F5_takeWord_h3 v0 v1 v2 v3 n) v0 v1 v2 v3 a4 M
noncomputable def F5_takeWord (v0 : Nat) (v1 : Nat) (v2 : Int32) (v3 : Int32) (mc : Mem) : Option (Int32 × Mem) :=
  (F5_takeWord_h3 v0 v1 v2 v3 FU) (0 : Int32) mc
set_option maxHeartbeats 4000000 in
set_option maxRecDepth 100000 in
theorem kX5_takeWord (l : Launch) (g : GG) (v0 : Nat) (v1 : Nat) (v2 : Int32) (v3 : Int32) (h0 : isO 5 v0) (h1 : isO 7 v1) (mc mm : Mem) (q : Int32 × Mem) (hF : F5_takeWord v0 v1 v2 v3 mc = some q) : KI l yX5_takeWord cX5_takeWord 6 .int 6 163 g [.ref (g.1 v0), .ref (g.1 v1), .int v2, .int v3] mc mm q.1 (q.2, mm) := by
  intro sz
  refine x_start (Qc := fun z => QI g z q.1 (q.2, mm)) (by decide +kernel) (Nat.le_of_ble_eq_true rfl) ?_ sz
  intro p e s m args below meth c ls Z hr hlk hP hl
  have hx := Z.1.1
  have hb := Z.1.2.1
  have hown := Z.1.2.2.2.1
  have hts := Z.1.2.2.2.2
  have hS : va_S (AA g s.heap.size) s.heap s.heap [] := va_S.rf
  have hl : lv_has ls 6 [(0, .ref (g.1 v0)), (1, .ref (g.1 v1)), (2, .int v2), (3, .int v3)] := hl
  unfold F5_takeWord at hF
  have hL3 : ∀ n : Nat, ∀ (a4 : Int32) (M : Mem), F5_takeWord_h3 v0 v1 v2 v3 n a4 M = some q → ∀ (H : Heap) (locs : List Loc) (ls : Array Slot), lv_has ls 6 [(0, .ref (g.1 v0)), (1, .ref (g.1 v1)), (2, .int v2), (3, .int v3), (4, .int a4)] → va_P g.2.2.1 vwCl (wL g M mm) H → va_S (AA g s.heap.size) s.heap H locs → W p l e { frames := 6, cells := 0, slots := 0, locals := 163 } s m args below meth c H locs 0 0 (MQ below (QI g s.heap.size q.1 (q.2, mm)) args s 0 0 (AA g s.heap.size)) (F0 m 3 ls []) := by
    intro n
    induction n with
    | zero => intro a4 M hF H locs ls hl hP hS; exact absurd hF (fun z => nomatch (show (none : Option _) = some q from z))
    | succ n ih =>
      generalize hkh : F5_takeWord_h3 v0 v1 v2 v3 n = kh at ih
      intro a4 M hF H locs ls hl hP hS
      have hF : F5_takeWord_p3 (F5_takeWord_h3 v0 v1 v2 v3 n) v0 v1 v2 v3 a4 M = some q := hF
      rw [hkh] at hF
      unfold F5_takeWord_p3 at hF
      refine lv_iload hx hb dX5_takeWord_3 (lv_at hl 4 rfl) ?_
      refine lv_iconst (v := (4 : Int32)) hx hb dX5_takeWord_5 ic_4 ?_
      refine lv_icmp_ge (tgt := 49) hx hb dX5_takeWord_6 rfl (fun hc => ?_) (fun hc => ?_)
      · have hF := (if_pos hc).symm.trans hF
        refine lv_iconst (v := (4 : Int32)) hx hb dX5_takeWord_49 ic_4 ?_
        exact ret_IWC Z hr hlk hP hS hF dX5_takeWord_50
      · have hF := (if_neg hc).symm.trans hF
        refine lv_aload_n hx hb dX5_takeWord_9 rfl (lv_at hl 1 rfl) ?_
        refine lv_iload_n hx hb dX5_takeWord_10 rfl (lv_at hl 2 rfl) ?_
        refine lv_iload hx hb dX5_takeWord_11 (lv_at hl 4 rfl) ?_
        refine lv_iadd hx hb dX5_takeWord_13 ?_
        refine va_ldcS hx hb hown (Z.2.1.2.2.2 _ ks_4) dX5_takeWord_14 ?_
        obtain ⟨q3, hq3, hF⟩ := bd_ok hF
        refine xX7_sign Z hP hS h1 (by decide) hq3 wd_12_15 hl.1 (Nat.le_of_ble_eq_true rfl) ⟨Nat.le_of_ble_eq_true rfl, Nat.le_of_ble_eq_true rfl⟩ dX5_takeWord_16 (fun H locs hP hS => ?_)
        refine lv_istore (lv' := [(5, .int q3), (0, .ref (g.1 v0)), (1, .ref (g.1 v1)), (2, .int v2), (3, .int v3), (4, .int a4)]) hx hb dX5_takeWord_19 hl (Nat.le_of_ble_eq_true rfl) rfl (fun ls hl => ?_)
        refine lv_iload hx hb dX5_takeWord_21 (lv_at hl 0 rfl) ?_
        refine lv_iconst (v := (-1 : Int32)) hx hb dX5_takeWord_23 ic_m1 ?_
        refine lv_icmp_ne (tgt := 30) hx hb dX5_takeWord_24 rfl (fun hc => ?_) (fun hc => ?_)
        · have hF := (if_neg hc).symm.trans hF
          refine lv_aload_n hx hb dX5_takeWord_30 rfl (lv_at hl 1 rfl) ?_
          refine gf5_4 Z hP h0 wd_4_10 dX5_takeWord_31 ?_
          refine lv_iload_n hx hb dX5_takeWord_34 rfl (lv_at hl 4 rfl) ?_
          refine lv_iconst (v := (4 : Int32)) hx hb dX5_takeWord_35 ic_4 ?_
          refine lv_imul hx hb dX5_takeWord_36 ?_
          refine lv_iload hx hb dX5_takeWord_37 (lv_at hl 5 rfl) ?_
          refine lv_iadd hx hb dX5_takeWord_39 ?_
          refine lv_iload hx hb dX5_takeWord_40 (lv_at hl 0 rfl) ?_
          obtain ⟨hi4, hF⟩ := ck_ok hF
          refine ra_st Z hP hS (ia_5_4 h0) hi4 dX5_takeWord_42 (fun H locs hP hS => ?_)
          refine lv_iinc (lv' := [(4, .int (a4 + (1 : Int32))), (5, .int q3), (0, .ref (g.1 v0)), (1, .ref (g.1 v1)), (2, .int v2), (3, .int v3)]) (v := (a4 + (1 : Int32))) hx hb dX5_takeWord_43 hl (k := 5) rfl (io_1 _) (Nat.le_of_ble_eq_true rfl) rfl (fun ls hl => ?_)
          refine lv_goto (tgt := 3) hx hb dX5_takeWord_46 rfl ?_
          exact ih _ _ hF _ _ _ (lv_sub hl [2, 3, 4, 5, 0] rfl) hP hS
        · have hF := (if_pos hc).symm.trans hF
          refine lv_iload hx hb dX5_takeWord_27 (lv_at hl 5 rfl) ?_
          exact ret_IWC Z hr hlk hP hS hF dX5_takeWord_29
  refine lv_iconst (v := (0 : Int32)) hx hb dX5_takeWord_0 ic_0 ?_
  refine lv_istore (lv' := [(4, .int (0 : Int32)), (0, .ref (g.1 v0)), (1, .ref (g.1 v1)), (2, .int v2), (3, .int v3)]) hx hb dX5_takeWord_1 hl (Nat.le_of_ble_eq_true rfl) rfl (fun ls hl => ?_)
  exact (hL3 FU) _ _ hF _ _ _ (lv_sub hl [1, 2, 3, 4, 0] rfl) hP hS
theorem xX5_takeWord {p : Program} {l : Launch} {e : Env} {R : Room} {s : State} {m : MethodId} {args : Array Value} {below : List Frame} {meth : Method} {c : Code} {H : Heap} {locs : List Loc} {Q : State → Prop} {cc : ByteArray} {nL : Nat} {own : String} {g : GG} {pc index : Nat} {ls : Array Slot} {rest : List Value} {mc mm : Mem} (Z : ZZ p s m args c cc nL own g) (hP : va_P g.2.2.1 vwCl (wL g mc mm) H) (hS : va_S (AA g s.heap.size) s.heap H locs) {v0 : Nat} {v1 : Nat} {v2 : Int32} {v3 : Int32} (h0 : isO 5 v0) (h1 : isO 7 v1) {q : Int32 × Mem} (hq : F5_takeWord v0 v1 v2 v3 mc = some q) (hlk : Cond.methodLink own index yX5_takeWord ∈ wsL_law) (hsz : ls.size = nL) (hro : (rest.map fun v => v.category).sum ≤ 8) (hR : 6 + 1 ≤ R.frames ∧ 8 + (6 + 11) + 163 ≤ R.locals) (hdg : decode cc pc = .ok (.invokevirtual index, 3)) (kk : ∀ (H : Heap) (locs : List Loc), va_P g.2.2.1 vwCl (wL g q.2 mm) H → va_S (AA g s.heap.size) s.heap H locs → W p l e R s m args below meth c H locs 0 0 Q (F0 m (pc + 3) ls (.int q.1 :: rest))) : W p l e R s m args below meth c H locs 0 0 Q (F0 m pc ls (.int v3 :: .int v2 :: .ref (g.1 v1) :: .ref (g.1 v0) :: rest)) :=
  x_VI Z hP hS (kX5_takeWord l g v0 v1 v2 v3 h0 h1 mc mm q hq) (isO_w h0) (ci := 5) (by decide) rfl rfl mf_X5_takeWord mv_X5_takeWord hlk rfl rfl hsz hro hR hdg kk
theorem dX5_takeAll_0 : decode cX5_takeAll 0 = .ok (.iconst 0, 1) := by decide +kernel
theorem dX5_takeAll_1 : decode cX5_takeAll 1 = .ok (.istore_n 2, 1) := by decide +kernel
theorem dX5_takeAll_2 : decode cX5_takeAll 2 = .ok (.iconst 0, 1) := by decide +kernel
theorem dX5_takeAll_3 : decode cX5_takeAll 3 = .ok (.istore_n 3, 1) := by decide +kernel
theorem dX5_takeAll_4 : decode cX5_takeAll 4 = .ok (.iload_n 3, 1) := by decide +kernel
theorem dX5_takeAll_5 : decode cX5_takeAll 5 = .ok (.bipush 8, 2) := by decide +kernel
theorem dX5_takeAll_7 : decode cX5_takeAll 7 = .ok (.if_icmp .ge 96, 3) := by decide +kernel
theorem dX5_takeAll_10 : decode cX5_takeAll 10 = .ok (.aload_n 0, 1) := by decide +kernel
theorem dX5_takeAll_11 : decode cX5_takeAll 11 = .ok (.aload_n 1, 1) := by decide +kernel
theorem dX5_takeAll_12 : decode cX5_takeAll 12 = .ok (.iload_n 2, 1) := by decide +kernel
theorem dX5_takeAll_13 : decode cX5_takeAll 13 = .ok (.iload_n 3, 1) := by decide +kernel
theorem dX5_takeAll_14 : decode cX5_takeAll 14 = .ok (.invokevirtual 40, 3) := by decide +kernel
theorem dX5_takeAll_17 : decode cX5_takeAll 17 = .ok (.istore 4, 2) := by decide +kernel
theorem dX5_takeAll_19 : decode cX5_takeAll 19 = .ok (.iload 4, 2) := by decide +kernel
theorem dX5_takeAll_21 : decode cX5_takeAll 21 = .ok (.iconst (-1), 1) := by decide +kernel
theorem dX5_takeAll_22 : decode cX5_takeAll 22 = .ok (.if_icmp .eq 6, 3) := by decide +kernel
theorem dX5_takeAll_25 : decode cX5_takeAll 25 = .ok (.iload 4, 2) := by decide +kernel
theorem dX5_takeAll_27 : decode cX5_takeAll 27 = .ok (.ireturn, 1) := by decide +kernel
theorem dX5_takeAll_28 : decode cX5_takeAll 28 = .ok (.iinc 2 3, 3) := by decide +kernel
theorem dX5_takeAll_31 : decode cX5_takeAll 31 = .ok (.aload_n 0, 1) := by decide +kernel
theorem dX5_takeAll_32 : decode cX5_takeAll 32 = .ok (.getfield 21, 3) := by decide +kernel
theorem dX5_takeAll_35 : decode cX5_takeAll 35 = .ok (.iload_n 3, 1) := by decide +kernel
theorem dX5_takeAll_36 : decode cX5_takeAll 36 = .ok (.aload_n 0, 1) := by decide +kernel
theorem dX5_takeAll_37 : decode cX5_takeAll 37 = .ok (.aload_n 1, 1) := by decide +kernel
theorem dX5_takeAll_38 : decode cX5_takeAll 38 = .ok (.iload_n 2, 1) := by decide +kernel
theorem dX5_takeAll_39 : decode cX5_takeAll 39 = .ok (.iload_n 3, 1) := by decide +kernel
theorem dX5_takeAll_40 : decode cX5_takeAll 40 = .ok (.invokevirtual 44, 3) := by decide +kernel
theorem dX5_takeAll_43 : decode cX5_takeAll 43 = .ok (.iastore, 1) := by decide +kernel
theorem dX5_takeAll_44 : decode cX5_takeAll 44 = .ok (.aload_n 0, 1) := by decide +kernel
theorem dX5_takeAll_45 : decode cX5_takeAll 45 = .ok (.getfield 21, 3) := by decide +kernel
theorem dX5_takeAll_48 : decode cX5_takeAll 48 = .ok (.iload_n 3, 1) := by decide +kernel
theorem dX5_takeAll_49 : decode cX5_takeAll 49 = .ok (.iaload, 1) := by decide +kernel
theorem dX5_takeAll_50 : decode cX5_takeAll 50 = .ok (.ifCond .ne 5, 3) := by decide +kernel
theorem dX5_takeAll_53 : decode cX5_takeAll 53 = .ok (.iload_n 2, 1) := by decide +kernel
theorem dX5_takeAll_54 : decode cX5_takeAll 54 = .ok (.ireturn, 1) := by decide +kernel
theorem dX5_takeAll_55 : decode cX5_takeAll 55 = .ok (.aload_n 0, 1) := by decide +kernel
theorem dX5_takeAll_56 : decode cX5_takeAll 56 = .ok (.iload_n 3, 1) := by decide +kernel
theorem dX5_takeAll_57 : decode cX5_takeAll 57 = .ok (.iconst 1, 1) := by decide +kernel
theorem dX5_takeAll_58 : decode cX5_takeAll 58 = .ok (.iadd, 1) := by decide +kernel
theorem dX5_takeAll_59 : decode cX5_takeAll 59 = .ok (.putfield 27, 3) := by decide +kernel
theorem dX5_takeAll_62 : decode cX5_takeAll 62 = .ok (.iload_n 2, 1) := by decide +kernel
theorem dX5_takeAll_63 : decode cX5_takeAll 63 = .ok (.aload_n 0, 1) := by decide +kernel
theorem dX5_takeAll_64 : decode cX5_takeAll 64 = .ok (.getfield 21, 3) := by decide +kernel
theorem dX5_takeAll_67 : decode cX5_takeAll 67 = .ok (.iload_n 3, 1) := by decide +kernel
theorem dX5_takeAll_68 : decode cX5_takeAll 68 = .ok (.iaload, 1) := by decide +kernel
theorem dX5_takeAll_69 : decode cX5_takeAll 69 = .ok (.iadd, 1) := by decide +kernel
theorem dX5_takeAll_70 : decode cX5_takeAll 70 = .ok (.istore_n 2, 1) := by decide +kernel
theorem dX5_takeAll_71 : decode cX5_takeAll 71 = .ok (.iload_n 2, 1) := by decide +kernel
theorem dX5_takeAll_72 : decode cX5_takeAll 72 = .ok (.aload_n 1, 1) := by decide +kernel
theorem dX5_takeAll_73 : decode cX5_takeAll 73 = .ok (.getfield 31, 3) := by decide +kernel
theorem dX5_takeAll_76 : decode cX5_takeAll 76 = .ok (.if_icmp .ne 5, 3) := by decide +kernel
theorem dX5_takeAll_79 : decode cX5_takeAll 79 = .ok (.iconst (-1), 1) := by decide +kernel
theorem dX5_takeAll_80 : decode cX5_takeAll 80 = .ok (.ireturn, 1) := by decide +kernel
theorem dX5_takeAll_81 : decode cX5_takeAll 81 = .ok (.aload_n 1, 1) := by decide +kernel
theorem dX5_takeAll_82 : decode cX5_takeAll 82 = .ok (.iload_n 2, 1) := by decide +kernel
theorem dX5_takeAll_83 : decode cX5_takeAll 83 = .ok (.ldc 47, 2) := by decide +kernel
theorem dX5_takeAll_85 : decode cX5_takeAll 85 = .ok (.invokevirtual 49, 3) := by decide +kernel
theorem dX5_takeAll_88 : decode cX5_takeAll 88 = .ok (.iconst (-1), 1) := by decide +kernel
theorem dX5_takeAll_89 : decode cX5_takeAll 89 = .ok (.if_icmp .ne 5, 3) := by decide +kernel
theorem dX5_takeAll_92 : decode cX5_takeAll 92 = .ok (.iload_n 2, 1) := by decide +kernel
theorem dX5_takeAll_93 : decode cX5_takeAll 93 = .ok (.ireturn, 1) := by decide +kernel
theorem dX5_takeAll_94 : decode cX5_takeAll 94 = .ok (.iinc 2 1, 3) := by decide +kernel
theorem dX5_takeAll_97 : decode cX5_takeAll 97 = .ok (.iinc 3 1, 3) := by decide +kernel
theorem dX5_takeAll_100 : decode cX5_takeAll 100 = .ok (.goto (-96), 3) := by decide +kernel
theorem dX5_takeAll_103 : decode cX5_takeAll 103 = .ok (.iload_n 2, 1) := by decide +kernel
theorem dX5_takeAll_104 : decode cX5_takeAll 104 = .ok (.ireturn, 1) := by decide +kernel
noncomputable def F5_takeAll_p4 (kh : Int32 → Int32 → Mem → Option (Int32 × Mem)) (v0 : Nat) (v1 : Nat) (a2 : Int32) (a3 : Int32) (M : Mem) : Option (Int32 × Mem) :=
  (if (8 : Int32) ≤ a3 then some (a2, M) else ((F5_takeHead v0 v1 a2 a3 M).bind (fun q9 => (if q9.1 = (-1 : Int32) then ((F5_takeWord v0 v1 (a2 + (3 : Int32)) a3 q9.2).bind (fun q10 => (ck a3 8 (lt (mset q10.2 (v0 + 4) a3.toNatClampNeg q10.1) (fun M12 => (ck a3 8 (if (M12 (v0 + 4) a3.toNatClampNeg) = (0 : Int32) then some ((a2 + (3 : Int32)), M12) else (lt (mset M12 v0 5 (a3 + (1 : Int32))) (fun M14 => (ck a3 8 (if ((a2 + (3 : Int32)) + (M14 (v0 + 4) a3.toNatClampNeg)) = (M14 v1 1) then some ((-1 : Int32), M14) else ((F7_sign v1 ((a2 + (3 : Int32)) + (M14 (v0 + 4) a3.toNatClampNeg)) 0 M14).bind (fun q16 => (if q16 = (-1 : Int32) then some (((a2 + (3 : Int32)) + (M14 (v0 + 4) a3.toNatClampNeg)), M14) else kh (((a2 + (3 : Int32)) + (M14 (v0 + 4) a3.toNatClampNeg)) + (1 : Int32)) (a3 + (1 : Int32)) M14)))))))))))))) else some (q9.1, q9.2)))))
noncomputable def F5_takeAll_h4 (v0 : Nat) (v1 : Nat) : Nat → Int32 → Int32 → Mem → Option (Int32 × Mem)
  | 0, _, _, _ => none
  | n + 1, a2, a3, M => F5_takeAll_p4 (F5_takeAll_h4 v0 v1 n) v0 v1 a2 a3 M
noncomputable def F5_takeAll (v0 : Nat) (v1 : Nat) (mc : Mem) : Option (Int32 × Mem) :=
  (F5_takeAll_h4 v0 v1 FU) (0 : Int32) (0 : Int32) mc
set_option maxHeartbeats 4000000 in
set_option maxRecDepth 100000 in
theorem kX5_takeAll (l : Launch) (g : GG) (v0 : Nat) (v1 : Nat) (h0 : isO 5 v0) (h1 : isO 7 v1) (mc mm : Mem) (q : Int32 × Mem) (hF : F5_takeAll v0 v1 mc = some q) : KI l yX5_takeAll cX5_takeAll 5 .int 7 188 g [.ref (g.1 v0), .ref (g.1 v1)] mc mm q.1 (q.2, mm) := by
  intro sz
  refine x_start (Qc := fun z => QI g z q.1 (q.2, mm)) (by decide +kernel) (Nat.le_of_ble_eq_true rfl) ?_ sz
  intro p e s m args below meth c ls Z hr hlk hP hl
  have hx := Z.1.1
  have hb := Z.1.2.1
  have hown := Z.1.2.2.2.1
  have hts := Z.1.2.2.2.2
  have hS : va_S (AA g s.heap.size) s.heap s.heap [] := va_S.rf
  have hl : lv_has ls 5 [(0, .ref (g.1 v0)), (1, .ref (g.1 v1))] := hl
  unfold F5_takeAll at hF
  have hL4 : ∀ n : Nat, ∀ (a2 : Int32) (a3 : Int32) (M : Mem), F5_takeAll_h4 v0 v1 n a2 a3 M = some q → ∀ (H : Heap) (locs : List Loc) (ls : Array Slot), lv_has ls 5 [(0, .ref (g.1 v0)), (1, .ref (g.1 v1)), (2, .int a2), (3, .int a3)] → va_P g.2.2.1 vwCl (wL g M mm) H → va_S (AA g s.heap.size) s.heap H locs → W p l e { frames := 7, cells := 0, slots := 0, locals := 188 } s m args below meth c H locs 0 0 (MQ below (QI g s.heap.size q.1 (q.2, mm)) args s 0 0 (AA g s.heap.size)) (F0 m 4 ls []) := by
    intro n
    induction n with
    | zero => intro a2 a3 M hF H locs ls hl hP hS; exact absurd hF (fun z => nomatch (show (none : Option _) = some q from z))
    | succ n ih =>
      generalize hkh : F5_takeAll_h4 v0 v1 n = kh at ih
      intro a2 a3 M hF H locs ls hl hP hS
      have hF : F5_takeAll_p4 (F5_takeAll_h4 v0 v1 n) v0 v1 a2 a3 M = some q := hF
      rw [hkh] at hF
      unfold F5_takeAll_p4 at hF
      refine lv_iload_n hx hb dX5_takeAll_4 rfl (lv_at hl 3 rfl) ?_
      refine lv_bipush (v := (8 : Int32)) hx hb dX5_takeAll_5 bp_8 ?_
      refine lv_icmp_ge (tgt := 103) hx hb dX5_takeAll_7 rfl (fun hc => ?_) (fun hc => ?_)
      · have hF := (if_pos hc).symm.trans hF
        refine lv_iload_n hx hb dX5_takeAll_103 rfl (lv_at hl 2 rfl) ?_
        exact ret_IWC Z hr hlk hP hS hF dX5_takeAll_104
      · have hF := (if_neg hc).symm.trans hF
        refine lv_aload_n hx hb dX5_takeAll_10 rfl (lv_at hl 0 rfl) ?_
        refine lv_aload_n hx hb dX5_takeAll_11 rfl (lv_at hl 1 rfl) ?_
        refine lv_iload_n hx hb dX5_takeAll_12 rfl (lv_at hl 2 rfl) ?_
        refine lv_iload_n hx hb dX5_takeAll_13 rfl (lv_at hl 3 rfl) ?_
        obtain ⟨q9, hq9, hF⟩ := bd_ok hF
        refine xX5_takeHead Z hP hS h0 h1 hq9 wd_12_11 hl.1 (Nat.le_of_ble_eq_true rfl) ⟨Nat.le_of_ble_eq_true rfl, Nat.le_of_ble_eq_true rfl⟩ dX5_takeAll_14 (fun H locs hP hS => ?_)
        refine lv_istore (lv' := [(4, .int q9.1), (0, .ref (g.1 v0)), (1, .ref (g.1 v1)), (2, .int a2), (3, .int a3)]) hx hb dX5_takeAll_17 hl (Nat.le_of_ble_eq_true rfl) rfl (fun ls hl => ?_)
        refine lv_iload hx hb dX5_takeAll_19 (lv_at hl 0 rfl) ?_
        refine lv_iconst (v := (-1 : Int32)) hx hb dX5_takeAll_21 ic_m1 ?_
        refine lv_icmp_eq (tgt := 28) hx hb dX5_takeAll_22 rfl (fun hc => ?_) (fun hc => ?_)
        · have hF := (if_pos hc).symm.trans hF
          refine lv_iinc (lv' := [(2, .int (a2 + (3 : Int32))), (4, .int q9.1), (0, .ref (g.1 v0)), (1, .ref (g.1 v1)), (3, .int a3)]) (v := (a2 + (3 : Int32))) hx hb dX5_takeAll_28 hl (k := 3) rfl (io_3 _) (Nat.le_of_ble_eq_true rfl) rfl (fun ls hl => ?_)
          refine lv_aload_n hx hb dX5_takeAll_31 rfl (lv_at hl 2 rfl) ?_
          refine gf5_3 Z hP h0 wd_4_9 dX5_takeAll_32 ?_
          refine lv_iload_n hx hb dX5_takeAll_35 rfl (lv_at hl 4 rfl) ?_
          refine lv_aload_n hx hb dX5_takeAll_36 rfl (lv_at hl 2 rfl) ?_
          refine lv_aload_n hx hb dX5_takeAll_37 rfl (lv_at hl 3 rfl) ?_
          refine lv_iload_n hx hb dX5_takeAll_38 rfl (lv_at hl 0 rfl) ?_
          refine lv_iload_n hx hb dX5_takeAll_39 rfl (lv_at hl 4 rfl) ?_
          obtain ⟨q10, hq10, hF⟩ := bd_ok hF
          refine xX5_takeWord Z hP hS h0 h1 hq10 wd_12_16 hl.1 (Nat.le_of_ble_eq_true rfl) ⟨Nat.le_of_ble_eq_true rfl, Nat.le_of_ble_eq_true rfl⟩ dX5_takeAll_40 (fun H locs hP hS => ?_)
          obtain ⟨hi11, hF⟩ := ck_ok hF
          refine ra_st Z hP hS (ia_5_3 h0) hi11 dX5_takeAll_43 (fun H locs hP hS => ?_)
          refine lv_aload_n hx hb dX5_takeAll_44 rfl (lv_at hl 2 rfl) ?_
          refine gf5_3 Z hP h0 wd_4_9 dX5_takeAll_45 ?_
          refine lv_iload_n hx hb dX5_takeAll_48 rfl (lv_at hl 4 rfl) ?_
          obtain ⟨M12, eM12, hF⟩ := lt_ok hF
          have hP : va_P g.2.2.1 vwCl (wL g M12 mm) H := by rw [eM12]; exact hP
          obtain ⟨hi13, hF⟩ := ck_ok hF
          refine ra_ld Z hP (ia_5_3 h0) hi13 dX5_takeAll_49 ?_
          refine lv_if_ne (tgt := 55) hx hb dX5_takeAll_50 rfl (fun hc => ?_) (fun hc => ?_)
          · have hF := (if_neg hc).symm.trans hF
            refine lv_aload_n hx hb dX5_takeAll_55 rfl (lv_at hl 2 rfl) ?_
            refine lv_iload_n hx hb dX5_takeAll_56 rfl (lv_at hl 4 rfl) ?_
            refine lv_iconst (v := (1 : Int32)) hx hb dX5_takeAll_57 ic_1 ?_
            refine lv_iadd hx hb dX5_takeAll_58 ?_
            refine pf5_5 Z hP hS h0 wd_12_6 dX5_takeAll_59 (fun H locs hP hS => ?_)
            refine lv_iload_n hx hb dX5_takeAll_62 rfl (lv_at hl 0 rfl) ?_
            refine lv_aload_n hx hb dX5_takeAll_63 rfl (lv_at hl 2 rfl) ?_
            refine gf5_3 Z hP h0 wd_4_9 dX5_takeAll_64 ?_
            refine lv_iload_n hx hb dX5_takeAll_67 rfl (lv_at hl 4 rfl) ?_
            obtain ⟨M14, eM14, hF⟩ := lt_ok hF
            have hP : va_P g.2.2.1 vwCl (wL g M14 mm) H := by rw [eM14]; exact hP
            obtain ⟨hi15, hF⟩ := ck_ok hF
            refine ra_ld Z hP (ia_5_3 h0) hi15 dX5_takeAll_68 ?_
            refine lv_iadd hx hb dX5_takeAll_69 ?_
            refine lv_istore_n (lv' := [(2, .int ((a2 + (3 : Int32)) + (M14 (v0 + 4) a3.toNatClampNeg))), (4, .int q9.1), (0, .ref (g.1 v0)), (1, .ref (g.1 v1)), (3, .int a3)]) hx hb dX5_takeAll_70 rfl hl (Nat.le_of_ble_eq_true rfl) rfl (fun ls hl => ?_)
            refine lv_iload_n hx hb dX5_takeAll_71 rfl (lv_at hl 0 rfl) ?_
            refine lv_aload_n hx hb dX5_takeAll_72 rfl (lv_at hl 3 rfl) ?_
            refine gf7_1N Z hP h1 nf_45 dX5_takeAll_73 ?_
            refine lv_icmp_ne (tgt := 81) hx hb dX5_takeAll_76 rfl (fun hc => ?_) (fun hc => ?_)
            · have hF := (if_neg hc).symm.trans hF
              refine lv_aload_n hx hb dX5_takeAll_81 rfl (lv_at hl 3 rfl) ?_
              refine lv_iload_n hx hb dX5_takeAll_82 rfl (lv_at hl 0 rfl) ?_
              refine va_ldcS hx hb hown (Z.2.1.2.2.2 _ ks_0) dX5_takeAll_83 ?_
              obtain ⟨q16, hq16, hF⟩ := bd_ok hF
              refine xX7_sign Z hP hS h1 (by decide) hq16 wd_12_15 hl.1 (Nat.le_of_ble_eq_true rfl) ⟨Nat.le_of_ble_eq_true rfl, Nat.le_of_ble_eq_true rfl⟩ dX5_takeAll_85 (fun H locs hP hS => ?_)
              refine lv_iconst (v := (-1 : Int32)) hx hb dX5_takeAll_88 ic_m1 ?_
              refine lv_icmp_ne (tgt := 94) hx hb dX5_takeAll_89 rfl (fun hc => ?_) (fun hc => ?_)
              · have hF := (if_neg hc).symm.trans hF
                refine lv_iinc (lv' := [(2, .int (((a2 + (3 : Int32)) + (M14 (v0 + 4) a3.toNatClampNeg)) + (1 : Int32))), (4, .int q9.1), (0, .ref (g.1 v0)), (1, .ref (g.1 v1)), (3, .int a3)]) (v := (((a2 + (3 : Int32)) + (M14 (v0 + 4) a3.toNatClampNeg)) + (1 : Int32))) hx hb dX5_takeAll_94 hl (k := 0) rfl (io_1 _) (Nat.le_of_ble_eq_true rfl) rfl (fun ls hl => ?_)
                refine lv_iinc (lv' := [(3, .int (a3 + (1 : Int32))), (2, .int (((a2 + (3 : Int32)) + (M14 (v0 + 4) a3.toNatClampNeg)) + (1 : Int32))), (4, .int q9.1), (0, .ref (g.1 v0)), (1, .ref (g.1 v1))]) (v := (a3 + (1 : Int32))) hx hb dX5_takeAll_97 hl (k := 4) rfl (io_1 _) (Nat.le_of_ble_eq_true rfl) rfl (fun ls hl => ?_)
                refine lv_goto (tgt := 4) hx hb dX5_takeAll_100 rfl ?_
                exact ih _ _ _ hF _ _ _ (lv_sub hl [3, 4, 1, 0] rfl) hP hS
              · have hF := (if_pos hc).symm.trans hF
                refine lv_iload_n hx hb dX5_takeAll_92 rfl (lv_at hl 0 rfl) ?_
                exact ret_IWC Z hr hlk hP hS hF dX5_takeAll_93
            · have hF := (if_pos hc).symm.trans hF
              refine lv_iconst (v := (-1 : Int32)) hx hb dX5_takeAll_79 ic_m1 ?_
              exact ret_IWC Z hr hlk hP hS hF dX5_takeAll_80
          · have hF := (if_pos hc).symm.trans hF
            refine lv_iload_n hx hb dX5_takeAll_53 rfl (lv_at hl 0 rfl) ?_
            exact ret_IWC Z hr hlk hP hS hF dX5_takeAll_54
        · have hF := (if_neg hc).symm.trans hF
          refine lv_iload hx hb dX5_takeAll_25 (lv_at hl 0 rfl) ?_
          exact ret_IWC Z hr hlk hP hS hF dX5_takeAll_27
  refine lv_iconst (v := (0 : Int32)) hx hb dX5_takeAll_0 ic_0 ?_
  refine lv_istore_n (lv' := [(2, .int (0 : Int32)), (0, .ref (g.1 v0)), (1, .ref (g.1 v1))]) hx hb dX5_takeAll_1 rfl hl (Nat.le_of_ble_eq_true rfl) rfl (fun ls hl => ?_)
  refine lv_iconst (v := (0 : Int32)) hx hb dX5_takeAll_2 ic_0 ?_
  refine lv_istore_n (lv' := [(3, .int (0 : Int32)), (2, .int (0 : Int32)), (0, .ref (g.1 v0)), (1, .ref (g.1 v1))]) hx hb dX5_takeAll_3 rfl hl (Nat.le_of_ble_eq_true rfl) rfl (fun ls hl => ?_)
  exact (hL4 FU) _ _ _ hF _ _ _ (lv_sub hl [2, 3, 1, 0] rfl) hP hS
theorem xX5_takeAll {p : Program} {l : Launch} {e : Env} {R : Room} {s : State} {m : MethodId} {args : Array Value} {below : List Frame} {meth : Method} {c : Code} {H : Heap} {locs : List Loc} {Q : State → Prop} {cc : ByteArray} {nL : Nat} {own : String} {g : GG} {pc index : Nat} {ls : Array Slot} {rest : List Value} {mc mm : Mem} (Z : ZZ p s m args c cc nL own g) (hP : va_P g.2.2.1 vwCl (wL g mc mm) H) (hS : va_S (AA g s.heap.size) s.heap H locs) {v0 : Nat} {v1 : Nat} (h0 : isO 5 v0) (h1 : isO 7 v1) {q : Int32 × Mem} (hq : F5_takeAll v0 v1 mc = some q) (hlk : Cond.methodLink own index yX5_takeAll ∈ wsL_law) (hsz : ls.size = nL) (hro : (rest.map fun v => v.category).sum ≤ 8) (hR : 7 + 1 ≤ R.frames ∧ 8 + (5 + 11) + 188 ≤ R.locals) (hdg : decode cc pc = .ok (.invokevirtual index, 3)) (kk : ∀ (H : Heap) (locs : List Loc), va_P g.2.2.1 vwCl (wL g q.2 mm) H → va_S (AA g s.heap.size) s.heap H locs → W p l e R s m args below meth c H locs 0 0 Q (F0 m (pc + 3) ls (.int q.1 :: rest))) : W p l e R s m args below meth c H locs 0 0 Q (F0 m pc ls (.ref (g.1 v1) :: .ref (g.1 v0) :: rest)) :=
  x_VI Z hP hS (kX5_takeAll l g v0 v1 h0 h1 mc mm q hq) (isO_w h0) (ci := 5) (by decide) rfl rfl mf_X5_takeAll mv_X5_takeAll hlk rfl rfl hsz hro hR hdg kk
theorem dX5_take_0 : decode cX5_take 0 = .ok (.aload_n 0, 1) := by decide +kernel
theorem dX5_take_1 : decode cX5_take 1 = .ok (.iconst 0, 1) := by decide +kernel
theorem dX5_take_2 : decode cX5_take 2 = .ok (.putfield 27, 3) := by decide +kernel
theorem dX5_take_5 : decode cX5_take 5 = .ok (.aload_n 1, 1) := by decide +kernel
theorem dX5_take_6 : decode cX5_take 6 = .ok (.getfield 31, 3) := by decide +kernel
theorem dX5_take_9 : decode cX5_take 9 = .ok (.ifCond .ne 7, 3) := by decide +kernel
theorem dX5_take_12 : decode cX5_take 12 = .ok (.iconst (-1), 1) := by decide +kernel
theorem dX5_take_13 : decode cX5_take 13 = .ok (.goto 8, 3) := by decide +kernel
theorem dX5_take_16 : decode cX5_take 16 = .ok (.aload_n 0, 1) := by decide +kernel
theorem dX5_take_17 : decode cX5_take 17 = .ok (.aload_n 1, 1) := by decide +kernel
theorem dX5_take_18 : decode cX5_take 18 = .ok (.invokevirtual 36, 3) := by decide +kernel
theorem dX5_take_21 : decode cX5_take 21 = .ok (.istore_n 2, 1) := by decide +kernel
theorem dX5_take_22 : decode cX5_take 22 = .ok (.iload_n 2, 1) := by decide +kernel
theorem dX5_take_23 : decode cX5_take 23 = .ok (.iconst (-1), 1) := by decide +kernel
theorem dX5_take_24 : decode cX5_take 24 = .ok (.if_icmp .eq 8, 3) := by decide +kernel
theorem dX5_take_27 : decode cX5_take 27 = .ok (.aload_n 0, 1) := by decide +kernel
theorem dX5_take_28 : decode cX5_take 28 = .ok (.iconst 0, 1) := by decide +kernel
theorem dX5_take_29 : decode cX5_take 29 = .ok (.putfield 27, 3) := by decide +kernel
theorem dX5_take_32 : decode cX5_take 32 = .ok (.iload_n 2, 1) := by decide +kernel
theorem dX5_take_33 : decode cX5_take 33 = .ok (.ireturn, 1) := by decide +kernel
noncomputable def F5_take_b21 (v0 : Nat) (v1 : Nat) (s0 : Int32) (M : Mem) : Option (Int32 × Mem) :=
  (if s0 = (-1 : Int32) then some (s0, M) else some (s0, (mset M v0 5 (0 : Int32))))
noncomputable def F5_take (v0 : Nat) (v1 : Nat) (mc : Mem) : Option (Int32 × Mem) :=
  (lt (mset mc v0 5 (0 : Int32)) (fun M3 => (if (M3 v1 1) = (0 : Int32) then (F5_take_b21 v0 v1) (-1 : Int32) M3 else ((F5_takeAll v0 v1 M3).bind (fun q4 => ((F5_take_b21 v0 v1) q4.1 q4.2))))))
set_option maxHeartbeats 4000000 in
set_option maxRecDepth 100000 in
theorem kX5_take (l : Launch) (g : GG) (v0 : Nat) (v1 : Nat) (h0 : isO 5 v0) (h1 : isO 7 v1) (mc mm : Mem) (q : Int32 × Mem) (hF : F5_take v0 v1 mc = some q) : KI l yX5_take cX5_take 3 .int 8 212 g [.ref (g.1 v0), .ref (g.1 v1)] mc mm q.1 (q.2, mm) := by
  intro sz
  refine x_start (Qc := fun z => QI g z q.1 (q.2, mm)) (by decide +kernel) (Nat.le_of_ble_eq_true rfl) ?_ sz
  intro p e s m args below meth c ls Z hr hlk hP hl
  have hx := Z.1.1
  have hb := Z.1.2.1
  have hown := Z.1.2.2.2.1
  have hts := Z.1.2.2.2.2
  have hS : va_S (AA g s.heap.size) s.heap s.heap [] := va_S.rf
  have hl : lv_has ls 3 [(0, .ref (g.1 v0)), (1, .ref (g.1 v1))] := hl
  unfold F5_take at hF
  have hb21 : ∀ (s0 : Int32) (M : Mem), F5_take_b21 v0 v1 s0 M = some q → ∀ (H : Heap) (locs : List Loc) (ls : Array Slot), lv_has ls 3 [(0, .ref (g.1 v0))] → va_P g.2.2.1 vwCl (wL g M mm) H → va_S (AA g s.heap.size) s.heap H locs → W p l e { frames := 8, cells := 0, slots := 0, locals := 212 } s m args below meth c H locs 0 0 (MQ below (QI g s.heap.size q.1 (q.2, mm)) args s 0 0 (AA g s.heap.size)) (F0 m 21 ls [.int s0]) := by
    intro s0 M hF H locs ls hl hP hS
    unfold F5_take_b21 at hF
    refine lv_istore_n (lv' := [(2, .int s0), (0, .ref (g.1 v0))]) hx hb dX5_take_21 rfl hl (Nat.le_of_ble_eq_true rfl) rfl (fun ls hl => ?_)
    refine lv_iload_n hx hb dX5_take_22 rfl (lv_at hl 0 rfl) ?_
    refine lv_iconst (v := (-1 : Int32)) hx hb dX5_take_23 ic_m1 ?_
    refine lv_icmp_eq (tgt := 32) hx hb dX5_take_24 rfl (fun hc => ?_) (fun hc => ?_)
    · have hF := (if_pos hc).symm.trans hF
      refine lv_iload_n hx hb dX5_take_32 rfl (lv_at hl 0 rfl) ?_
      exact ret_IWC Z hr hlk hP hS hF dX5_take_33
    · have hF := (if_neg hc).symm.trans hF
      refine lv_aload_n hx hb dX5_take_27 rfl (lv_at hl 1 rfl) ?_
      refine lv_iconst (v := (0 : Int32)) hx hb dX5_take_28 ic_0 ?_
      refine pf5_5 Z hP hS h0 wd_12_6 dX5_take_29 (fun H locs hP hS => ?_)
      refine lv_iload_n hx hb dX5_take_32 rfl (lv_at hl 0 rfl) ?_
      exact ret_IWC Z hr hlk hP hS hF dX5_take_33
  refine lv_aload_n hx hb dX5_take_0 rfl (lv_at hl 0 rfl) ?_
  refine lv_iconst (v := (0 : Int32)) hx hb dX5_take_1 ic_0 ?_
  refine pf5_5 Z hP hS h0 wd_12_6 dX5_take_2 (fun H locs hP hS => ?_)
  refine lv_aload_n hx hb dX5_take_5 rfl (lv_at hl 1 rfl) ?_
  obtain ⟨M3, eM3, hF⟩ := lt_ok hF
  have hP : va_P g.2.2.1 vwCl (wL g M3 mm) H := by rw [eM3]; exact hP
  refine gf7_1N Z hP h1 nf_45 dX5_take_6 ?_
  refine lv_if_ne (tgt := 16) hx hb dX5_take_9 rfl (fun hc => ?_) (fun hc => ?_)
  · have hF := (if_neg hc).symm.trans hF
    refine lv_aload_n hx hb dX5_take_16 rfl (lv_at hl 0 rfl) ?_
    refine lv_aload_n hx hb dX5_take_17 rfl (lv_at hl 1 rfl) ?_
    obtain ⟨q4, hq4, hF⟩ := bd_ok hF
    refine xX5_takeAll Z hP hS h0 h1 hq4 wd_12_7 hl.1 (Nat.le_of_ble_eq_true rfl) ⟨Nat.le_of_ble_eq_true rfl, Nat.le_of_ble_eq_true rfl⟩ dX5_take_18 (fun H locs hP hS => ?_)
    exact hb21 _ _ hF _ _ _ (lv_sub hl [0] rfl) hP hS
  · have hF := (if_pos hc).symm.trans hF
    refine lv_iconst (v := (-1 : Int32)) hx hb dX5_take_12 ic_m1 ?_
    refine lv_goto (tgt := 21) hx hb dX5_take_13 rfl ?_
    exact hb21 _ _ hF _ _ _ (lv_sub hl [0] rfl) hP hS
theorem xX5_take {p : Program} {l : Launch} {e : Env} {R : Room} {s : State} {m : MethodId} {args : Array Value} {below : List Frame} {meth : Method} {c : Code} {H : Heap} {locs : List Loc} {Q : State → Prop} {cc : ByteArray} {nL : Nat} {own : String} {g : GG} {pc index : Nat} {ls : Array Slot} {rest : List Value} {mc mm : Mem} (Z : ZZ p s m args c cc nL own g) (hP : va_P g.2.2.1 vwCl (wL g mc mm) H) (hS : va_S (AA g s.heap.size) s.heap H locs) {v0 : Nat} {v1 : Nat} (h0 : isO 5 v0) (h1 : isO 7 v1) {q : Int32 × Mem} (hq : F5_take v0 v1 mc = some q) (hlk : Cond.methodLink own index yX5_take ∈ wsL_law) (hsz : ls.size = nL) (hro : (rest.map fun v => v.category).sum ≤ 8) (hR : 8 + 1 ≤ R.frames ∧ 8 + (3 + 11) + 212 ≤ R.locals) (hdg : decode cc pc = .ok (.invokevirtual index, 3)) (kk : ∀ (H : Heap) (locs : List Loc), va_P g.2.2.1 vwCl (wL g q.2 mm) H → va_S (AA g s.heap.size) s.heap H locs → W p l e R s m args below meth c H locs 0 0 Q (F0 m (pc + 3) ls (.int q.1 :: rest))) : W p l e R s m args below meth c H locs 0 0 Q (F0 m pc ls (.ref (g.1 v1) :: .ref (g.1 v0) :: rest)) :=
  x_VI Z hP hS (kX5_take l g v0 v1 h0 h1 mc mm q hq) (isO_w h0) (ci := 5) (by decide) rfl rfl mf_X5_take mv_X5_take hlk rfl rfl hsz hro hR hdg kk
theorem dX5_letter_0 : decode cX5_letter 0 = .ok (.iload_n 1, 1) := by decide +kernel
theorem dX5_letter_1 : decode cX5_letter 1 = .ok (.aload_n 0, 1) := by decide +kernel
theorem dX5_letter_2 : decode cX5_letter 2 = .ok (.getfield 27, 3) := by decide +kernel
theorem dX5_letter_5 : decode cX5_letter 5 = .ok (.invokestatic 61, 3) := by decide +kernel
theorem dX5_letter_8 : decode cX5_letter 8 = .ok (.ifCond .eq 29, 3) := by decide +kernel
theorem dX5_letter_11 : decode cX5_letter 11 = .ok (.iload_n 2, 1) := by decide +kernel
theorem dX5_letter_12 : decode cX5_letter 12 = .ok (.aload_n 0, 1) := by decide +kernel
theorem dX5_letter_13 : decode cX5_letter 13 = .ok (.getfield 21, 3) := by decide +kernel
theorem dX5_letter_16 : decode cX5_letter 16 = .ok (.iload_n 1, 1) := by decide +kernel
theorem dX5_letter_17 : decode cX5_letter 17 = .ok (.iaload, 1) := by decide +kernel
theorem dX5_letter_18 : decode cX5_letter 18 = .ok (.invokestatic 61, 3) := by decide +kernel
theorem dX5_letter_21 : decode cX5_letter 21 = .ok (.ifCond .eq 16, 3) := by decide +kernel
theorem dX5_letter_24 : decode cX5_letter 24 = .ok (.aload_n 0, 1) := by decide +kernel
theorem dX5_letter_25 : decode cX5_letter 25 = .ok (.getfield 24, 3) := by decide +kernel
theorem dX5_letter_28 : decode cX5_letter 28 = .ok (.iload_n 1, 1) := by decide +kernel
theorem dX5_letter_29 : decode cX5_letter 29 = .ok (.iconst 4, 1) := by decide +kernel
theorem dX5_letter_30 : decode cX5_letter 30 = .ok (.imul, 1) := by decide +kernel
theorem dX5_letter_31 : decode cX5_letter 31 = .ok (.iload_n 2, 1) := by decide +kernel
theorem dX5_letter_32 : decode cX5_letter 32 = .ok (.iadd, 1) := by decide +kernel
theorem dX5_letter_33 : decode cX5_letter 33 = .ok (.iaload, 1) := by decide +kernel
theorem dX5_letter_34 : decode cX5_letter 34 = .ok (.goto 4, 3) := by decide +kernel
theorem dX5_letter_37 : decode cX5_letter 37 = .ok (.iconst (-1), 1) := by decide +kernel
theorem dX5_letter_38 : decode cX5_letter 38 = .ok (.ireturn, 1) := by decide +kernel
noncomputable def F5_letter_b37 (v0 : Nat) (v1 : Int32) (v2 : Int32) (mc : Mem) : Option (Int32) :=
  some (-1 : Int32)
noncomputable def F5_letter (v0 : Nat) (v1 : Int32) (v2 : Int32) (mc : Mem) : Option (Int32) :=
  ((F9_in v1 (mc v0 5)).bind (fun q5 => (if q5 = (0 : Int32) then (F5_letter_b37 v0 v1 v2 mc) else (ck v1 8 ((F9_in v2 (mc (v0 + 4) v1.toNatClampNeg)).bind (fun q7 => (if q7 = (0 : Int32) then (F5_letter_b37 v0 v1 v2 mc) else (ck ((v1 * (4 : Int32)) + v2) 32 (some (mc (v0 + 5) ((v1 * (4 : Int32)) + v2).toNatClampNeg))))))))))
set_option maxHeartbeats 4000000 in
set_option maxRecDepth 100000 in
theorem kX5_letter (l : Launch) (g : GG) (v0 : Nat) (v1 : Int32) (v2 : Int32) (h0 : isO 5 v0) (mc mm : Mem) (q : Int32) (hF : F5_letter v0 v1 v2 mc = some q) : KI l yX5_letter cX5_letter 3 .int 1 21 g [.ref (g.1 v0), .int v1, .int v2] mc mm q (mc, mm) := by
  intro sz
  refine x_start (Qc := fun z => QI g z q (mc, mm)) (by decide +kernel) (Nat.le_of_ble_eq_true rfl) ?_ sz
  intro p e s m args below meth c ls Z hr hlk hP hl
  have hx := Z.1.1
  have hb := Z.1.2.1
  have hown := Z.1.2.2.2.1
  have hts := Z.1.2.2.2.2
  have hS : va_S (AA g s.heap.size) s.heap s.heap [] := va_S.rf
  have hl : lv_has ls 3 [(0, .ref (g.1 v0)), (1, .int v1), (2, .int v2)] := hl
  unfold F5_letter at hF
  have hb37 : F5_letter_b37 v0 v1 v2 mc = some q → ∀ (H : Heap) (locs : List Loc) (ls : Array Slot), lv_has ls 3 [] → va_P g.2.2.1 vwCl (wL g mc mm) H → va_S (AA g s.heap.size) s.heap H locs → W p l e { frames := 1, cells := 0, slots := 0, locals := 21 } s m args below meth c H locs 0 0 (MQ below (QI g s.heap.size q (mc, mm)) args s 0 0 (AA g s.heap.size)) (F0 m 37 ls []) := by
    intro hF H locs ls hl hP hS
    unfold F5_letter_b37 at hF
    refine lv_iconst (v := (-1 : Int32)) hx hb dX5_letter_37 ic_m1 ?_
    exact ret_I Z hr hlk hP hS hF dX5_letter_38
  refine lv_iload_n hx hb dX5_letter_0 rfl (lv_at hl 1 rfl) ?_
  refine lv_aload_n hx hb dX5_letter_1 rfl (lv_at hl 0 rfl) ?_
  refine gf5_5 Z hP h0 wd_12_6 dX5_letter_2 ?_
  obtain ⟨q5, hq5, hF⟩ := bd_ok hF
  refine xX9_inN Z hP hS hq5 nm_10 hl.1 (Nat.le_of_ble_eq_true rfl) ⟨Nat.le_of_ble_eq_true rfl, Nat.le_of_ble_eq_true rfl⟩ dX5_letter_5 (fun H locs hP hS => ?_)
  refine lv_if_eq (tgt := 37) hx hb dX5_letter_8 rfl (fun hc => ?_) (fun hc => ?_)
  · have hF := (if_pos hc).symm.trans hF
    exact hb37  hF _ _ _ (lv_sub hl [] rfl) hP hS
  · have hF := (if_neg hc).symm.trans hF
    refine lv_iload_n hx hb dX5_letter_11 rfl (lv_at hl 2 rfl) ?_
    refine lv_aload_n hx hb dX5_letter_12 rfl (lv_at hl 0 rfl) ?_
    refine gf5_3 Z hP h0 wd_4_9 dX5_letter_13 ?_
    refine lv_iload_n hx hb dX5_letter_16 rfl (lv_at hl 1 rfl) ?_
    obtain ⟨hi6, hF⟩ := ck_ok hF
    refine ra_ld Z hP (ia_5_3 h0) hi6 dX5_letter_17 ?_
    obtain ⟨q7, hq7, hF⟩ := bd_ok hF
    refine xX9_inN Z hP hS hq7 nm_10 hl.1 (Nat.le_of_ble_eq_true rfl) ⟨Nat.le_of_ble_eq_true rfl, Nat.le_of_ble_eq_true rfl⟩ dX5_letter_18 (fun H locs hP hS => ?_)
    refine lv_if_eq (tgt := 37) hx hb dX5_letter_21 rfl (fun hc => ?_) (fun hc => ?_)
    · have hF := (if_pos hc).symm.trans hF
      exact hb37  hF _ _ _ (lv_sub hl [] rfl) hP hS
    · have hF := (if_neg hc).symm.trans hF
      refine lv_aload_n hx hb dX5_letter_24 rfl (lv_at hl 0 rfl) ?_
      refine gf5_4 Z hP h0 wd_4_10 dX5_letter_25 ?_
      refine lv_iload_n hx hb dX5_letter_28 rfl (lv_at hl 1 rfl) ?_
      refine lv_iconst (v := (4 : Int32)) hx hb dX5_letter_29 ic_4 ?_
      refine lv_imul hx hb dX5_letter_30 ?_
      refine lv_iload_n hx hb dX5_letter_31 rfl (lv_at hl 2 rfl) ?_
      refine lv_iadd hx hb dX5_letter_32 ?_
      obtain ⟨hi8, hF⟩ := ck_ok hF
      refine ra_ld Z hP (ia_5_4 h0) hi8 dX5_letter_33 ?_
      refine lv_goto (tgt := 38) hx hb dX5_letter_34 rfl ?_
      exact ret_I Z hr hlk hP hS hF dX5_letter_38
theorem xX5_letter {p : Program} {l : Launch} {e : Env} {R : Room} {s : State} {m : MethodId} {args : Array Value} {below : List Frame} {meth : Method} {c : Code} {H : Heap} {locs : List Loc} {Q : State → Prop} {cc : ByteArray} {nL : Nat} {own : String} {g : GG} {pc index : Nat} {ls : Array Slot} {rest : List Value} {mc mm : Mem} (Z : ZZ p s m args c cc nL own g) (hP : va_P g.2.2.1 vwCl (wL g mc mm) H) (hS : va_S (AA g s.heap.size) s.heap H locs) {v0 : Nat} {v1 : Int32} {v2 : Int32} (h0 : isO 5 v0) {q : Int32} (hq : F5_letter v0 v1 v2 mc = some q) (hlk : Cond.methodLink own index yX5_letter ∈ wsL_law) (hsz : ls.size = nL) (hro : (rest.map fun v => v.category).sum ≤ 8) (hR : 1 + 1 ≤ R.frames ∧ 8 + (3 + 11) + 21 ≤ R.locals) (hdg : decode cc pc = .ok (.invokevirtual index, 3)) (kk : ∀ (H : Heap) (locs : List Loc), va_P g.2.2.1 vwCl (wL g mc mm) H → va_S (AA g s.heap.size) s.heap H locs → W p l e R s m args below meth c H locs 0 0 Q (F0 m (pc + 3) ls (.int q :: rest))) : W p l e R s m args below meth c H locs 0 0 Q (F0 m pc ls (.int v2 :: .int v1 :: .ref (g.1 v0) :: rest)) :=
  x_VI Z hP hS (kX5_letter l g v0 v1 v2 h0 mc mm q hq) (isO_w h0) (ci := 5) (by decide) rfl rfl mf_X5_letter mv_X5_letter hlk rfl rfl hsz hro hR hdg kk
theorem dJ7_fill_53178_0 : decode cJ7_fill_53178 0 = .ok (.iconst 0, 1) := by decide +kernel
theorem dJ7_fill_53178_1 : decode cJ7_fill_53178 1 = .ok (.istore_n 2, 1) := by decide +kernel
theorem dJ7_fill_53178_2 : decode cJ7_fill_53178 2 = .ok (.aload_n 0, 1) := by decide +kernel
theorem dJ7_fill_53178_3 : decode cJ7_fill_53178 3 = .ok (.arraylength, 1) := by decide +kernel
theorem dJ7_fill_53178_4 : decode cJ7_fill_53178 4 = .ok (.istore_n 3, 1) := by decide +kernel
theorem dJ7_fill_53178_5 : decode cJ7_fill_53178 5 = .ok (.iload_n 2, 1) := by decide +kernel
theorem dJ7_fill_53178_6 : decode cJ7_fill_53178 6 = .ok (.iload_n 3, 1) := by decide +kernel
theorem dJ7_fill_53178_7 : decode cJ7_fill_53178 7 = .ok (.if_icmp .ge 13, 3) := by decide +kernel
theorem dJ7_fill_53178_10 : decode cJ7_fill_53178 10 = .ok (.aload_n 0, 1) := by decide +kernel
theorem dJ7_fill_53178_11 : decode cJ7_fill_53178 11 = .ok (.iload_n 2, 1) := by decide +kernel
theorem dJ7_fill_53178_12 : decode cJ7_fill_53178 12 = .ok (.iload_n 1, 1) := by decide +kernel
theorem dJ7_fill_53178_13 : decode cJ7_fill_53178 13 = .ok (.iastore, 1) := by decide +kernel
theorem dJ7_fill_53178_14 : decode cJ7_fill_53178 14 = .ok (.iinc 2 1, 3) := by decide +kernel
theorem dJ7_fill_53178_17 : decode cJ7_fill_53178 17 = .ok (.goto (-12), 3) := by decide +kernel
theorem dJ7_fill_53178_20 : decode cJ7_fill_53178 20 = .ok (.return_, 1) := by decide +kernel
noncomputable def F7_fill_53178_p5 (kh : Int32 → Int32 → Mem → Option (Mem)) (v0 : Nat) (v1 : Int32) (a2 : Int32) (a3 : Int32) (M : Mem) : Option (Mem) :=
  (if a3 ≤ a2 then some M else (ck a2 (ln v0) (kh (a2 + (1 : Int32)) a3 (mset M v0 a2.toNatClampNeg v1))))
noncomputable def F7_fill_53178_h5 (v0 : Nat) (v1 : Int32) : Nat → Int32 → Int32 → Mem → Option (Mem)
  | 0, _, _, _ => none
  | n + 1, a2, a3, M => F7_fill_53178_p5 (F7_fill_53178_h5 v0 v1 n) v0 v1 a2 a3 M
noncomputable def F7_fill_53178 (v0 : Nat) (v1 : Int32) (mc : Mem) : Option (Mem) :=
  (F7_fill_53178_h5 v0 v1 FU) (0 : Int32) (Int32.ofNat (ln v0)) mc
set_option maxHeartbeats 4000000 in
set_option maxRecDepth 100000 in
theorem kJ7_fill_53178 (l : Launch) (g : GG) (v0 : Nat) (v1 : Int32) (h0 : isA (ln v0) v0) (mc mm : Mem) (q : Mem) (hF : F7_fill_53178 v0 v1 mc = some q) : KV l yJ7_fill_53178 cJ7_fill_53178 4 0 0 g [.ref (g.1 v0), .int v1] mc mm (q, mm) := by
  intro sz
  refine x_start (Qc := fun z => QV g z (q, mm)) (by decide +kernel) (Nat.le_of_ble_eq_true rfl) ?_ sz
  intro p e s m args below meth c ls Z hr hlk hP hl
  have hx := Z.1.1
  have hb := Z.1.2.1
  have hown := Z.1.2.2.2.1
  have hts := Z.1.2.2.2.2
  have hS : va_S (AA g s.heap.size) s.heap s.heap [] := va_S.rf
  have hl : lv_has ls 4 [(0, .ref (g.1 v0)), (1, .int v1)] := hl
  unfold F7_fill_53178 at hF
  have hL5 : ∀ n : Nat, ∀ (a2 : Int32) (a3 : Int32) (M : Mem), F7_fill_53178_h5 v0 v1 n a2 a3 M = some q → ∀ (H : Heap) (locs : List Loc) (ls : Array Slot), lv_has ls 4 [(0, .ref (g.1 v0)), (1, .int v1), (2, .int a2), (3, .int a3)] → va_P g.2.2.1 vwCl (wL g M mm) H → va_S (AA g s.heap.size) s.heap H locs → W p l e { frames := 0, cells := 0, slots := 0, locals := 0 } s m args below meth c H locs 0 0 (MQ below (QV g s.heap.size (q, mm)) args s 0 0 (AA g s.heap.size)) (F0 m 5 ls []) := by
    intro n
    induction n with
    | zero => intro a2 a3 M hF H locs ls hl hP hS; exact absurd hF (fun z => nomatch (show (none : Option _) = some q from z))
    | succ n ih =>
      generalize hkh : F7_fill_53178_h5 v0 v1 n = kh at ih
      intro a2 a3 M hF H locs ls hl hP hS
      have hF : F7_fill_53178_p5 (F7_fill_53178_h5 v0 v1 n) v0 v1 a2 a3 M = some q := hF
      rw [hkh] at hF
      unfold F7_fill_53178_p5 at hF
      refine lv_iload_n hx hb dJ7_fill_53178_5 rfl (lv_at hl 2 rfl) ?_
      refine lv_iload_n hx hb dJ7_fill_53178_6 rfl (lv_at hl 3 rfl) ?_
      refine lv_icmp_ge (tgt := 20) hx hb dJ7_fill_53178_7 rfl (fun hc => ?_) (fun hc => ?_)
      · have hF := (if_pos hc).symm.trans hF
        exact ret_VWC Z hr hlk hP hS hF dJ7_fill_53178_20
      · have hF := (if_neg hc).symm.trans hF
        refine lv_aload_n hx hb dJ7_fill_53178_10 rfl (lv_at hl 0 rfl) ?_
        refine lv_iload_n hx hb dJ7_fill_53178_11 rfl (lv_at hl 2 rfl) ?_
        refine lv_iload_n hx hb dJ7_fill_53178_12 rfl (lv_at hl 1 rfl) ?_
        obtain ⟨hi2, hF⟩ := ck_ok hF
        refine ra_st Z hP hS h0 hi2 dJ7_fill_53178_13 (fun H locs hP hS => ?_)
        refine lv_iinc (lv' := [(2, .int (a2 + (1 : Int32))), (0, .ref (g.1 v0)), (1, .int v1), (3, .int a3)]) (v := (a2 + (1 : Int32))) hx hb dJ7_fill_53178_14 hl (k := 2) rfl (io_1 _) (Nat.le_of_ble_eq_true rfl) rfl (fun ls hl => ?_)
        refine lv_goto (tgt := 5) hx hb dJ7_fill_53178_17 rfl ?_
        exact ih _ _ _ hF _ _ _ (lv_sub hl [1, 2, 0, 3] rfl) hP hS
  refine lv_iconst (v := (0 : Int32)) hx hb dJ7_fill_53178_0 ic_0 ?_
  refine lv_istore_n (lv' := [(2, .int (0 : Int32)), (0, .ref (g.1 v0)), (1, .int v1)]) hx hb dJ7_fill_53178_1 rfl hl (Nat.le_of_ble_eq_true rfl) rfl (fun ls hl => ?_)
  refine lv_aload_n hx hb dJ7_fill_53178_2 rfl (lv_at hl 1 rfl) ?_
  refine ra_len Z hP h0 dJ7_fill_53178_3 ?_
  refine lv_istore_n (lv' := [(3, .int (Int32.ofNat (ln v0))), (2, .int (0 : Int32)), (0, .ref (g.1 v0)), (1, .int v1)]) hx hb dJ7_fill_53178_4 rfl hl (Nat.le_of_ble_eq_true rfl) rfl (fun ls hl => ?_)
  exact (hL5 FU) _ _ _ hF _ _ _ (lv_sub hl [2, 3, 1, 0] rfl) hP hS
theorem xJ7_fill_53178 {p : Program} {l : Launch} {e : Env} {R : Room} {s : State} {m : MethodId} {args : Array Value} {below : List Frame} {meth : Method} {c : Code} {H : Heap} {locs : List Loc} {Q : State → Prop} {cc : ByteArray} {nL : Nat} {own : String} {g : GG} {pc index : Nat} {ls : Array Slot} {rest : List Value} {mc mm : Mem} (Z : ZZ p s m args c cc nL own g) (hP : va_P g.2.2.1 vwCl (wL g mc mm) H) (hS : va_S (AA g s.heap.size) s.heap H locs) {v0 : Nat} {v1 : Int32} (h0 : isA (ln v0) v0) {q : Mem} (hq : F7_fill_53178 v0 v1 mc = some q) (hlk : Cond.methodLink own index yJ7_fill_53178 ∈ wsL_law) (hsz : ls.size = nL) (hro : (rest.map fun v => v.category).sum ≤ 8) (hR : 0 + 1 ≤ R.frames ∧ 8 + (4 + 11) + 0 ≤ R.locals) (hdg : decode cc pc = .ok (.invokestatic index, 3)) (kk : ∀ (H : Heap) (locs : List Loc), va_P g.2.2.1 vwCl (wL g q mm) H → va_S (AA g s.heap.size) s.heap H locs → W p l e R s m args below meth c H locs 0 0 Q (F0 m (pc + 3) ls (rest))) : W p l e R s m args below meth c H locs 0 0 Q (F0 m pc ls (.int v1 :: .ref (g.1 v0) :: rest)) :=
  x_SV Z hP hS (kJ7_fill_53178 l g v0 v1 h0 mc mm q hq) mf_J7_fill_53178 wd_28_19 hlk rfl rfl hsz hro hR hdg kk

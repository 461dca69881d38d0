theorem dX4_follow_0 : decode cX4_follow 0 = .ok (.aload_n 0, 1) := by decide +kernel
theorem dX4_follow_1 : decode cX4_follow 1 = .ok (.iconst (-1), 1) := by decide +kernel
theorem dX4_follow_2 : decode cX4_follow 2 = .ok (.putfield 24, 3) := by decide +kernel
theorem dX4_follow_5 : decode cX4_follow 5 = .ok (.aload_n 0, 1) := by decide +kernel
theorem dX4_follow_6 : decode cX4_follow 6 = .ok (.iconst 0, 1) := by decide +kernel
theorem dX4_follow_7 : decode cX4_follow 7 = .ok (.putfield 28, 3) := by decide +kernel
theorem dX4_follow_10 : decode cX4_follow 10 = .ok (.aload_n 0, 1) := by decide +kernel
theorem dX4_follow_11 : decode cX4_follow 11 = .ok (.iconst 0, 1) := by decide +kernel
theorem dX4_follow_12 : decode cX4_follow 12 = .ok (.putfield 31, 3) := by decide +kernel
theorem dX4_follow_15 : decode cX4_follow 15 = .ok (.aload_n 0, 1) := by decide +kernel
theorem dX4_follow_16 : decode cX4_follow 16 = .ok (.aload_n 3, 1) := by decide +kernel
theorem dX4_follow_17 : decode cX4_follow 17 = .ok (.getfield 34, 3) := by decide +kernel
theorem dX4_follow_20 : decode cX4_follow 20 = .ok (.iload 4, 2) := by decide +kernel
theorem dX4_follow_22 : decode cX4_follow 22 = .ok (.iaload, 1) := by decide +kernel
theorem dX4_follow_23 : decode cX4_follow 23 = .ok (.putfield 39, 3) := by decide +kernel
theorem dX4_follow_26 : decode cX4_follow 26 = .ok (.aload_n 0, 1) := by decide +kernel
theorem dX4_follow_27 : decode cX4_follow 27 = .ok (.iconst 0, 1) := by decide +kernel
theorem dX4_follow_28 : decode cX4_follow 28 = .ok (.putfield 42, 3) := by decide +kernel
theorem dX4_follow_31 : decode cX4_follow 31 = .ok (.iconst 0, 1) := by decide +kernel
theorem dX4_follow_32 : decode cX4_follow 32 = .ok (.istore 7, 2) := by decide +kernel
theorem dX4_follow_34 : decode cX4_follow 34 = .ok (.iload 7, 2) := by decide +kernel
theorem dX4_follow_36 : decode cX4_follow 36 = .ok (.bipush 40, 2) := by decide +kernel
theorem dX4_follow_38 : decode cX4_follow 38 = .ok (.if_icmp .ge 225, 3) := by decide +kernel
theorem dX4_follow_41 : decode cX4_follow 41 = .ok (.aload_n 0, 1) := by decide +kernel
theorem dX4_follow_42 : decode cX4_follow 42 = .ok (.getfield 21, 3) := by decide +kernel
theorem dX4_follow_45 : decode cX4_follow 45 = .ok (.iload 7, 2) := by decide +kernel
theorem dX4_follow_47 : decode cX4_follow 47 = .ok (.iconst 0, 1) := by decide +kernel
theorem dX4_follow_48 : decode cX4_follow 48 = .ok (.iastore, 1) := by decide +kernel
theorem dX4_follow_49 : decode cX4_follow 49 = .ok (.iload 7, 2) := by decide +kernel
theorem dX4_follow_51 : decode cX4_follow 51 = .ok (.aload_n 3, 1) := by decide +kernel
theorem dX4_follow_52 : decode cX4_follow 52 = .ok (.getfield 45, 3) := by decide +kernel
theorem dX4_follow_55 : decode cX4_follow 55 = .ok (.iload 4, 2) := by decide +kernel
theorem dX4_follow_57 : decode cX4_follow 57 = .ok (.iaload, 1) := by decide +kernel
theorem dX4_follow_58 : decode cX4_follow 58 = .ok (.if_icmp .ne 35, 3) := by decide +kernel
theorem dX4_follow_61 : decode cX4_follow 61 = .ok (.aload_n 0, 1) := by decide +kernel
theorem dX4_follow_62 : decode cX4_follow 62 = .ok (.aload_n 1, 1) := by decide +kernel
theorem dX4_follow_63 : decode cX4_follow 63 = .ok (.aload_n 2, 1) := by decide +kernel
theorem dX4_follow_64 : decode cX4_follow 64 = .ok (.getfield 48, 3) := by decide +kernel
theorem dX4_follow_67 : decode cX4_follow 67 = .ok (.iload 7, 2) := by decide +kernel
theorem dX4_follow_69 : decode cX4_follow 69 = .ok (.iaload, 1) := by decide +kernel
theorem dX4_follow_70 : decode cX4_follow 70 = .ok (.iload 5, 2) := by decide +kernel
theorem dX4_follow_72 : decode cX4_follow 72 = .ok (.invokevirtual 53, 3) := by decide +kernel
theorem dX4_follow_75 : decode cX4_follow 75 = .ok (.aload_n 0, 1) := by decide +kernel
theorem dX4_follow_76 : decode cX4_follow 76 = .ok (.iload 7, 2) := by decide +kernel
theorem dX4_follow_78 : decode cX4_follow 78 = .ok (.aload_n 1, 1) := by decide +kernel
theorem dX4_follow_79 : decode cX4_follow 79 = .ok (.aload_n 0, 1) := by decide +kernel
theorem dX4_follow_80 : decode cX4_follow 80 = .ok (.getfield 24, 3) := by decide +kernel
theorem dX4_follow_83 : decode cX4_follow 83 = .ok (.invokevirtual 57, 3) := by decide +kernel
theorem dX4_follow_86 : decode cX4_follow 86 = .ok (.iadd, 1) := by decide +kernel
theorem dX4_follow_87 : decode cX4_follow 87 = .ok (.putfield 63, 3) := by decide +kernel
theorem dX4_follow_90 : decode cX4_follow 90 = .ok (.goto 134, 3) := by decide +kernel
theorem dX4_follow_93 : decode cX4_follow 93 = .ok (.aload_n 0, 1) := by decide +kernel
theorem dX4_follow_94 : decode cX4_follow 94 = .ok (.getfield 24, 3) := by decide +kernel
theorem dX4_follow_97 : decode cX4_follow 97 = .ok (.iconst (-1), 1) := by decide +kernel
theorem dX4_follow_98 : decode cX4_follow 98 = .ok (.if_icmp .eq 126, 3) := by decide +kernel
theorem dX4_follow_101 : decode cX4_follow 101 = .ok (.aload_n 0, 1) := by decide +kernel
theorem dX4_follow_102 : decode cX4_follow 102 = .ok (.aload_n 1, 1) := by decide +kernel
theorem dX4_follow_103 : decode cX4_follow 103 = .ok (.aload_n 2, 1) := by decide +kernel
theorem dX4_follow_104 : decode cX4_follow 104 = .ok (.iload 7, 2) := by decide +kernel
theorem dX4_follow_106 : decode cX4_follow 106 = .ok (.invokevirtual 66, 3) := by decide +kernel
theorem dX4_follow_109 : decode cX4_follow 109 = .ok (.istore 8, 2) := by decide +kernel
theorem dX4_follow_111 : decode cX4_follow 111 = .ok (.iload 8, 2) := by decide +kernel
theorem dX4_follow_113 : decode cX4_follow 113 = .ok (.aload_n 0, 1) := by decide +kernel
theorem dX4_follow_114 : decode cX4_follow 114 = .ok (.getfield 24, 3) := by decide +kernel
theorem dX4_follow_117 : decode cX4_follow 117 = .ok (.if_icmp .ne 12, 3) := by decide +kernel
theorem dX4_follow_120 : decode cX4_follow 120 = .ok (.iload 7, 2) := by decide +kernel
theorem dX4_follow_122 : decode cX4_follow 122 = .ok (.aload_n 0, 1) := by decide +kernel
theorem dX4_follow_123 : decode cX4_follow 123 = .ok (.getfield 63, 3) := by decide +kernel
theorem dX4_follow_126 : decode cX4_follow 126 = .ok (.if_icmp .ne 7, 3) := by decide +kernel
theorem dX4_follow_129 : decode cX4_follow 129 = .ok (.iconst 1, 1) := by decide +kernel
theorem dX4_follow_130 : decode cX4_follow 130 = .ok (.goto 4, 3) := by decide +kernel
theorem dX4_follow_133 : decode cX4_follow 133 = .ok (.iconst 0, 1) := by decide +kernel
theorem dX4_follow_134 : decode cX4_follow 134 = .ok (.istore 9, 2) := by decide +kernel
theorem dX4_follow_136 : decode cX4_follow 136 = .ok (.iload 8, 2) := by decide +kernel
theorem dX4_follow_138 : decode cX4_follow 138 = .ok (.aload_n 0, 1) := by decide +kernel
theorem dX4_follow_139 : decode cX4_follow 139 = .ok (.getfield 24, 3) := by decide +kernel
theorem dX4_follow_142 : decode cX4_follow 142 = .ok (.if_icmp .eq 62, 3) := by decide +kernel
theorem dX4_follow_145 : decode cX4_follow 145 = .ok (.aload_n 0, 1) := by decide +kernel
theorem dX4_follow_146 : decode cX4_follow 146 = .ok (.iload 8, 2) := by decide +kernel
theorem dX4_follow_148 : decode cX4_follow 148 = .ok (.iload 8, 2) := by decide +kernel
theorem dX4_follow_150 : decode cX4_follow 150 = .ok (.iconst (-1), 1) := by decide +kernel
theorem dX4_follow_151 : decode cX4_follow 151 = .ok (.if_icmp .eq 18, 3) := by decide +kernel
theorem dX4_follow_154 : decode cX4_follow 154 = .ok (.aload_n 1, 1) := by decide +kernel
theorem dX4_follow_155 : decode cX4_follow 155 = .ok (.getfield 70, 3) := by decide +kernel
theorem dX4_follow_158 : decode cX4_follow 158 = .ok (.iload 8, 2) := by decide +kernel
theorem dX4_follow_160 : decode cX4_follow 160 = .ok (.iaload, 1) := by decide +kernel
theorem dX4_follow_161 : decode cX4_follow 161 = .ok (.iconst 1, 1) := by decide +kernel
theorem dX4_follow_162 : decode cX4_follow 162 = .ok (.if_icmp .ne 7, 3) := by decide +kernel
theorem dX4_follow_165 : decode cX4_follow 165 = .ok (.iconst 1, 1) := by decide +kernel
theorem dX4_follow_166 : decode cX4_follow 166 = .ok (.goto 4, 3) := by decide +kernel
theorem dX4_follow_169 : decode cX4_follow 169 = .ok (.iconst 0, 1) := by decide +kernel
theorem dX4_follow_170 : decode cX4_follow 170 = .ok (.iload 6, 2) := by decide +kernel
theorem dX4_follow_172 : decode cX4_follow 172 = .ok (.iconst 1, 1) := by decide +kernel
theorem dX4_follow_173 : decode cX4_follow 173 = .ok (.if_icmp .ne 7, 3) := by decide +kernel
theorem dX4_follow_176 : decode cX4_follow 176 = .ok (.iconst 1, 1) := by decide +kernel
theorem dX4_follow_177 : decode cX4_follow 177 = .ok (.goto 4, 3) := by decide +kernel
theorem dX4_follow_180 : decode cX4_follow 180 = .ok (.iconst 0, 1) := by decide +kernel
theorem dX4_follow_181 : decode cX4_follow 181 = .ok (.invokevirtual 73, 3) := by decide +kernel
theorem dX4_follow_184 : decode cX4_follow 184 = .ok (.aload_n 0, 1) := by decide +kernel
theorem dX4_follow_185 : decode cX4_follow 185 = .ok (.getfield 21, 3) := by decide +kernel
theorem dX4_follow_188 : decode cX4_follow 188 = .ok (.iload 7, 2) := by decide +kernel
theorem dX4_follow_190 : decode cX4_follow 190 = .ok (.aload_n 0, 1) := by decide +kernel
theorem dX4_follow_191 : decode cX4_follow 191 = .ok (.getfield 24, 3) := by decide +kernel
theorem dX4_follow_194 : decode cX4_follow 194 = .ok (.iconst (-1), 1) := by decide +kernel
theorem dX4_follow_195 : decode cX4_follow 195 = .ok (.if_icmp .ne 7, 3) := by decide +kernel
theorem dX4_follow_198 : decode cX4_follow 198 = .ok (.iconst 0, 1) := by decide +kernel
theorem dX4_follow_199 : decode cX4_follow 199 = .ok (.goto 4, 3) := by decide +kernel
theorem dX4_follow_202 : decode cX4_follow 202 = .ok (.iconst 1, 1) := by decide +kernel
theorem dX4_follow_203 : decode cX4_follow 203 = .ok (.iastore, 1) := by decide +kernel
theorem dX4_follow_204 : decode cX4_follow 204 = .ok (.iload 9, 2) := by decide +kernel
theorem dX4_follow_206 : decode cX4_follow 206 = .ok (.ifCond .eq 18, 3) := by decide +kernel
theorem dX4_follow_209 : decode cX4_follow 209 = .ok (.aload_n 0, 1) := by decide +kernel
theorem dX4_follow_210 : decode cX4_follow 210 = .ok (.iload 7, 2) := by decide +kernel
theorem dX4_follow_212 : decode cX4_follow 212 = .ok (.aload_n 1, 1) := by decide +kernel
theorem dX4_follow_213 : decode cX4_follow 213 = .ok (.aload_n 0, 1) := by decide +kernel
theorem dX4_follow_214 : decode cX4_follow 214 = .ok (.getfield 24, 3) := by decide +kernel
theorem dX4_follow_217 : decode cX4_follow 217 = .ok (.invokevirtual 57, 3) := by decide +kernel
theorem dX4_follow_220 : decode cX4_follow 220 = .ok (.iadd, 1) := by decide +kernel
theorem dX4_follow_221 : decode cX4_follow 221 = .ok (.putfield 63, 3) := by decide +kernel
theorem dX4_follow_224 : decode cX4_follow 224 = .ok (.aload_n 0, 1) := by decide +kernel
theorem dX4_follow_225 : decode cX4_follow 225 = .ok (.getfield 9, 3) := by decide +kernel
theorem dX4_follow_228 : decode cX4_follow 228 = .ok (.iload 7, 2) := by decide +kernel
theorem dX4_follow_230 : decode cX4_follow 230 = .ok (.aload_n 0, 1) := by decide +kernel
theorem dX4_follow_231 : decode cX4_follow 231 = .ok (.getfield 24, 3) := by decide +kernel
theorem dX4_follow_234 : decode cX4_follow 234 = .ok (.iastore, 1) := by decide +kernel
theorem dX4_follow_235 : decode cX4_follow 235 = .ok (.aload_n 0, 1) := by decide +kernel
theorem dX4_follow_236 : decode cX4_follow 236 = .ok (.getfield 15, 3) := by decide +kernel
theorem dX4_follow_239 : decode cX4_follow 239 = .ok (.iload 7, 2) := by decide +kernel
theorem dX4_follow_241 : decode cX4_follow 241 = .ok (.aload_n 0, 1) := by decide +kernel
theorem dX4_follow_242 : decode cX4_follow 242 = .ok (.getfield 31, 3) := by decide +kernel
theorem dX4_follow_245 : decode cX4_follow 245 = .ok (.iastore, 1) := by decide +kernel
theorem dX4_follow_246 : decode cX4_follow 246 = .ok (.aload_n 0, 1) := by decide +kernel
theorem dX4_follow_247 : decode cX4_follow 247 = .ok (.getfield 18, 3) := by decide +kernel
theorem dX4_follow_250 : decode cX4_follow 250 = .ok (.iload 7, 2) := by decide +kernel
theorem dX4_follow_252 : decode cX4_follow 252 = .ok (.aload_n 0, 1) := by decide +kernel
theorem dX4_follow_253 : decode cX4_follow 253 = .ok (.getfield 39, 3) := by decide +kernel
theorem dX4_follow_256 : decode cX4_follow 256 = .ok (.iastore, 1) := by decide +kernel
theorem dX4_follow_257 : decode cX4_follow 257 = .ok (.iinc 7 1, 3) := by decide +kernel
theorem dX4_follow_260 : decode cX4_follow 260 = .ok (.goto (-226), 3) := by decide +kernel
theorem dX4_follow_263 : decode cX4_follow 263 = .ok (.return_, 1) := by decide +kernel
noncomputable def F4_follow_b224 (kh : Int32 → Mem → Option (Mem)) (v0 : Nat) (v1 : Nat) (v2 : Nat) (v3 : Nat) (v4 : Int32) (v5 : Int32) (v6 : Int32) (a7 : Int32) (M : Mem) : Option (Mem) :=
  (ck a7 40 (lt (mset M (v0 + 1) a7.toNatClampNeg (M v0 5)) (fun M20 => (ck a7 40 (lt (mset M20 (v0 + 2) a7.toNatClampNeg (M20 v0 8)) (fun M22 => (ck a7 40 (kh (a7 + (1 : Int32)) (mset M22 (v0 + 3) a7.toNatClampNeg (M22 v0 9))))))))))
noncomputable def F4_follow_b204 (kh : Int32 → Mem → Option (Mem)) (v0 : Nat) (v1 : Nat) (v2 : Nat) (v3 : Nat) (v4 : Int32) (v5 : Int32) (v6 : Int32) (a7 : Int32) (a9 : Int32) (M : Mem) : Option (Mem) :=
  (if a9 = (0 : Int32) then (F4_follow_b224 kh v0 v1 v2 v3 v4 v5 v6) a7 M else ((F8_stay v1 (M v0 5) M).bind (fun q24 => ((F4_follow_b224 kh v0 v1 v2 v3 v4 v5 v6) a7 (mset M v0 6 (a7 + q24))))))
noncomputable def F4_follow_b203 (kh : Int32 → Mem → Option (Mem)) (v0 : Nat) (v1 : Nat) (v2 : Nat) (v3 : Nat) (v4 : Int32) (v5 : Int32) (v6 : Int32) (a7 : Int32) (a9 : Int32) (s0 : Nat) (s1 : Int32) (s2 : Int32) (M : Mem) : Option (Mem) :=
  (ck s1 40 ((F4_follow_b204 kh v0 v1 v2 v3 v4 v5 v6) a7 a9 (mset M s0 s1.toNatClampNeg s2)))
noncomputable def F4_follow_b181 (kh : Int32 → Mem → Option (Mem)) (v0 : Nat) (v1 : Nat) (v2 : Nat) (v3 : Nat) (v4 : Int32) (v5 : Int32) (v6 : Int32) (a7 : Int32) (a9 : Int32) (s0 : Nat) (s1 : Int32) (s2 : Int32) (s3 : Int32) (M : Mem) : Option (Mem) :=
  ((F4_come s0 s1 s2 s3 M).bind (fun q26 => (if (q26 v0 5) = (-1 : Int32) then (F4_follow_b203 kh v0 v1 v2 v3 v4 v5 v6) a7 a9 (v0 + 4) a7 (0 : Int32) q26 else (F4_follow_b203 kh v0 v1 v2 v3 v4 v5 v6) a7 a9 (v0 + 4) a7 (1 : Int32) q26)))
noncomputable def F4_follow_b170 (kh : Int32 → Mem → Option (Mem)) (v0 : Nat) (v1 : Nat) (v2 : Nat) (v3 : Nat) (v4 : Int32) (v5 : Int32) (v6 : Int32) (a7 : Int32) (a9 : Int32) (s0 : Nat) (s1 : Int32) (s2 : Int32) (M : Mem) : Option (Mem) :=
  (if v6 = (1 : Int32) then (F4_follow_b181 kh v0 v1 v2 v3 v4 v5 v6) a7 a9 s0 s1 s2 (1 : Int32) M else (F4_follow_b181 kh v0 v1 v2 v3 v4 v5 v6) a7 a9 s0 s1 s2 (0 : Int32) M)
noncomputable def F4_follow_b169 (kh : Int32 → Mem → Option (Mem)) (v0 : Nat) (v1 : Nat) (v2 : Nat) (v3 : Nat) (v4 : Int32) (v5 : Int32) (v6 : Int32) (a7 : Int32) (a9 : Int32) (s0 : Nat) (s1 : Int32) (M : Mem) : Option (Mem) :=
  (F4_follow_b170 kh v0 v1 v2 v3 v4 v5 v6) a7 a9 s0 s1 (0 : Int32) M
noncomputable def F4_follow_b134 (kh : Int32 → Mem → Option (Mem)) (v0 : Nat) (v1 : Nat) (v2 : Nat) (v3 : Nat) (v4 : Int32) (v5 : Int32) (v6 : Int32) (a7 : Int32) (a8 : Int32) (s0 : Int32) (M : Mem) : Option (Mem) :=
  (if a8 = (M v0 5) then (F4_follow_b204 kh v0 v1 v2 v3 v4 v5 v6) a7 s0 M else (if a8 = (-1 : Int32) then (F4_follow_b169 kh v0 v1 v2 v3 v4 v5 v6) a7 s0 v0 a8 M else (ck a8 8 (if (M (v1 + 1) a8.toNatClampNeg) = (1 : Int32) then (F4_follow_b170 kh v0 v1 v2 v3 v4 v5 v6) a7 s0 v0 a8 (1 : Int32) M else (F4_follow_b169 kh v0 v1 v2 v3 v4 v5 v6) a7 s0 v0 a8 M))))
noncomputable def F4_follow_b129 (kh : Int32 → Mem → Option (Mem)) (v0 : Nat) (v1 : Nat) (v2 : Nat) (v3 : Nat) (v4 : Int32) (v5 : Int32) (v6 : Int32) (a7 : Int32) (a8 : Int32) (M : Mem) : Option (Mem) :=
  (F4_follow_b134 kh v0 v1 v2 v3 v4 v5 v6) a7 a8 (1 : Int32) M
noncomputable def F4_follow_p34 (kh : Int32 → Mem → Option (Mem)) (v0 : Nat) (v1 : Nat) (v2 : Nat) (v3 : Nat) (v4 : Int32) (v5 : Int32) (v6 : Int32) (a7 : Int32) (M : Mem) : Option (Mem) :=
  (if (40 : Int32) ≤ a7 then some M else (ck a7 40 (lt (mset M (v0 + 4) a7.toNatClampNeg (0 : Int32)) (fun M29 => (ck v4 8 (if a7 = (M29 (v3 + 1) v4.toNatClampNeg) then (ck a7 40 ((F4_begin v0 v1 (M29 (v2 + 2) a7.toNatClampNeg) v5 M29).bind (fun q33 => ((F8_stay v1 (q33 v0 5) q33).bind (fun q34 => ((F4_follow_b224 kh v0 v1 v2 v3 v4 v5 v6) a7 (mset q33 v0 6 (a7 + q34)))))))) else (if (M29 v0 5) = (-1 : Int32) then (F4_follow_b224 kh v0 v1 v2 v3 v4 v5 v6) a7 M29 else ((F4_next v0 v1 v2 a7 M29).bind (fun q31 => (if q31 = (M29 v0 5) then (if a7 = (M29 v0 6) then (F4_follow_b129 kh v0 v1 v2 v3 v4 v5 v6) a7 q31 M29 else (F4_follow_b134 kh v0 v1 v2 v3 v4 v5 v6) a7 q31 (0 : Int32) M29) else (F4_follow_b129 kh v0 v1 v2 v3 v4 v5 v6) a7 q31 M29))))))))))
noncomputable def F4_follow_h34 (v0 : Nat) (v1 : Nat) (v2 : Nat) (v3 : Nat) (v4 : Int32) (v5 : Int32) (v6 : Int32) : Nat → Int32 → Mem → Option (Mem)
  | 0, _, _ => none
  | n + 1, a7, M => F4_follow_p34 (F4_follow_h34 v0 v1 v2 v3 v4 v5 v6 n) v0 v1 v2 v3 v4 v5 v6 a7 M
noncomputable def F4_follow (v0 : Nat) (v1 : Nat) (v2 : Nat) (v3 : Nat) (v4 : Int32) (v5 : Int32) (v6 : Int32) (mc : Mem) : Option (Mem) :=
  (lt (mset (mset (mset mc v0 5 (-1 : Int32)) v0 7 (0 : Int32)) v0 8 (0 : Int32)) (fun M35 => (ck v4 8 ((F4_follow_h34 v0 v1 v2 v3 v4 v5 v6 FU) (0 : Int32) (mset (mset M35 v0 9 (M35 (v3 + 4) v4.toNatClampNeg)) v0 4 (0 : Int32))))))
set_option maxHeartbeats 4000000 in
set_option maxRecDepth 100000 in
theorem kX4_follow (l : Launch) (g : GG) (v0 : Nat) (v1 : Nat) (v2 : Nat) (v3 : Nat) (v4 : Int32) (v5 : Int32) (v6 : Int32) (h0 : isO 4 v0) (h1 : isO 8 v1) (h2 : isO 3 v2) (h3 : isO 5 v3) (mc mm : Mem) (q : Mem) (hF : F4_follow v0 v1 v2 v3 v4 v5 v6 mc = some q) : KV l yX4_follow cX4_follow 10 1 27 g [.ref (g.1 v0), .ref (g.1 v1), .ref (g.1 v2), .ref (g.1 v3), .int v4, .int v5, .int v6] mc mm (q, mm) := by
  intro sz
  refine x_start (Qc := fun z => QV g z (q, mm)) (by decide +kernel) (Nat.le_of_ble_eq_true rfl) ?_ sz
  intro p e s m args below meth c ls Z hr hlk hP hl
  have hx := Z.1.1
  have hb := Z.1.2.1
  have hown := Z.1.2.2.2.1
  have hts := Z.1.2.2.2.2
  have hS : va_S (AA g s.heap.size) s.heap s.heap [] := va_S.rf
  have hl : lv_has ls 10 [(0, .ref (g.1 v0)), (1, .ref (g.1 v1)), (2, .ref (g.1 v2)), (3, .ref (g.1 v3)), (4, .int v4), (5, .int v5), (6, .int v6)] := hl
  unfold F4_follow at hF
  have hL34 : ∀ n : Nat, ∀ (a7 : Int32) (M : Mem), F4_follow_h34 v0 v1 v2 v3 v4 v5 v6 n a7 M = some q → ∀ (H : Heap) (locs : List Loc) (ls : Array Slot), lv_has ls 10 [(0, .ref (g.1 v0)), (1, .ref (g.1 v1)), (2, .ref (g.1 v2)), (3, .ref (g.1 v3)), (4, .int v4), (5, .int v5), (6, .int v6), (7, .int a7)] → va_P g.2.2.1 vwCl (wL g M mm) H → va_S (AA g s.heap.size) s.heap H locs → W p l e { frames := 1, cells := 0, slots := 0, locals := 27 } s m args below meth c H locs 0 0 (MQ below (QV g s.heap.size (q, mm)) args s 0 0 (AA g s.heap.size)) (F0 m 34 ls []) := by
    intro n
    induction n with
    | zero => intro a7 M hF H locs ls hl hP hS; exact absurd hF (fun z => nomatch (show (none : Option _) = some q from z))
    | succ n ih =>
      generalize hkh : F4_follow_h34 v0 v1 v2 v3 v4 v5 v6 n = kh at ih
      have hb224 : ∀ (a7 : Int32) (M : Mem), F4_follow_b224 kh v0 v1 v2 v3 v4 v5 v6 a7 M = some q → ∀ (H : Heap) (locs : List Loc) (ls : Array Slot), lv_has ls 10 [(0, .ref (g.1 v0)), (1, .ref (g.1 v1)), (2, .ref (g.1 v2)), (3, .ref (g.1 v3)), (4, .int v4), (5, .int v5), (6, .int v6), (7, .int a7)] → va_P g.2.2.1 vwCl (wL g M mm) H → va_S (AA g s.heap.size) s.heap H locs → W p l e { frames := 1, cells := 0, slots := 0, locals := 27 } s m args below meth c H locs 0 0 (MQ below (QV g s.heap.size (q, mm)) args s 0 0 (AA g s.heap.size)) (F0 m 224 ls []) := by
        intro a7 M hF H locs ls hl hP hS
        unfold F4_follow_b224 at hF
        refine lv_aload_n hx hb dX4_follow_224 rfl (lv_at hl 0 rfl) ?_
        refine gf4_0 Z hP h0 wd_5_14 dX4_follow_225 ?_
        refine lv_iload hx hb dX4_follow_228 (lv_at hl 7 rfl) ?_
        refine lv_aload_n hx hb dX4_follow_230 rfl (lv_at hl 0 rfl) ?_
        refine gf4_5 Z hP h0 wd_21_2 dX4_follow_231 ?_
        obtain ⟨hi19, hF⟩ := ck_ok hF
        refine ra_st Z hP hS (ia_4_0 h0) hi19 dX4_follow_234 (fun H locs hP hS => ?_)
        refine lv_aload_n hx hb dX4_follow_235 rfl (lv_at hl 0 rfl) ?_
        refine gf4_1 Z hP h0 wd_5_15 dX4_follow_236 ?_
        refine lv_iload hx hb dX4_follow_239 (lv_at hl 7 rfl) ?_
        refine lv_aload_n hx hb dX4_follow_241 rfl (lv_at hl 0 rfl) ?_
        obtain ⟨M20, eM20, hF⟩ := lt_ok hF
        have hP : va_P g.2.2.1 vwCl (wL g M20 mm) H := by rw [eM20]; exact hP
        refine gf4_8 Z hP h0 wd_21_4 dX4_follow_242 ?_
        obtain ⟨hi21, hF⟩ := ck_ok hF
        refine ra_st Z hP hS (ia_4_1 h0) hi21 dX4_follow_245 (fun H locs hP hS => ?_)
        refine lv_aload_n hx hb dX4_follow_246 rfl (lv_at hl 0 rfl) ?_
        refine gf4_2 Z hP h0 wd_5_16 dX4_follow_247 ?_
        refine lv_iload hx hb dX4_follow_250 (lv_at hl 7 rfl) ?_
        refine lv_aload_n hx hb dX4_follow_252 rfl (lv_at hl 0 rfl) ?_
        obtain ⟨M22, eM22, hF⟩ := lt_ok hF
        have hP : va_P g.2.2.1 vwCl (wL g M22 mm) H := by rw [eM22]; exact hP
        refine gf4_9 Z hP h0 wd_21_5 dX4_follow_253 ?_
        obtain ⟨hi23, hF⟩ := ck_ok hF
        refine ra_st Z hP hS (ia_4_2 h0) hi23 dX4_follow_256 (fun H locs hP hS => ?_)
        refine lv_iinc (lv' := [(7, .int (a7 + (1 : Int32))), (0, .ref (g.1 v0)), (1, .ref (g.1 v1)), (2, .ref (g.1 v2)), (3, .ref (g.1 v3)), (4, .int v4), (5, .int v5), (6, .int v6)]) (v := (a7 + (1 : Int32))) hx hb dX4_follow_257 hl (k := 7) rfl (io_1 _) (Nat.le_of_ble_eq_true rfl) rfl (fun ls hl => ?_)
        refine lv_goto (tgt := 34) hx hb dX4_follow_260 rfl ?_
        exact ih _ _ hF _ _ _ (lv_sub hl [1, 2, 3, 4, 5, 6, 7, 0] rfl) hP hS
      have hb204 : ∀ (a7 : Int32) (a9 : Int32) (M : Mem), F4_follow_b204 kh v0 v1 v2 v3 v4 v5 v6 a7 a9 M = some q → ∀ (H : Heap) (locs : List Loc) (ls : Array Slot), lv_has ls 10 [(0, .ref (g.1 v0)), (1, .ref (g.1 v1)), (2, .ref (g.1 v2)), (3, .ref (g.1 v3)), (4, .int v4), (5, .int v5), (6, .int v6), (7, .int a7), (9, .int a9)] → va_P g.2.2.1 vwCl (wL g M mm) H → va_S (AA g s.heap.size) s.heap H locs → W p l e { frames := 1, cells := 0, slots := 0, locals := 27 } s m args below meth c H locs 0 0 (MQ below (QV g s.heap.size (q, mm)) args s 0 0 (AA g s.heap.size)) (F0 m 204 ls []) := by
        intro a7 a9 M hF H locs ls hl hP hS
        unfold F4_follow_b204 at hF
        refine lv_iload hx hb dX4_follow_204 (lv_at hl 8 rfl) ?_
        refine lv_if_eq (tgt := 224) hx hb dX4_follow_206 rfl (fun hc => ?_) (fun hc => ?_)
        · have hF := (if_pos hc).symm.trans hF
          exact hb224 _ _ hF _ _ _ (lv_sub hl [0, 1, 2, 3, 4, 5, 6, 7] rfl) hP hS
        · have hF := (if_neg hc).symm.trans hF
          refine lv_aload_n hx hb dX4_follow_209 rfl (lv_at hl 0 rfl) ?_
          refine lv_iload hx hb dX4_follow_210 (lv_at hl 7 rfl) ?_
          refine lv_aload_n hx hb dX4_follow_212 rfl (lv_at hl 1 rfl) ?_
          refine lv_aload_n hx hb dX4_follow_213 rfl (lv_at hl 0 rfl) ?_
          refine gf4_5 Z hP h0 wd_21_2 dX4_follow_214 ?_
          obtain ⟨q24, hq24, hF⟩ := bd_ok hF
          refine xX8_stay Z hP hS h1 hq24 wd_21_12 hl.1 (Nat.le_of_ble_eq_true rfl) ⟨Nat.le_of_ble_eq_true rfl, Nat.le_of_ble_eq_true rfl⟩ dX4_follow_217 (fun H locs hP hS => ?_)
          refine lv_iadd hx hb dX4_follow_220 ?_
          refine pf4_6 Z hP hS h0 wd_21_7 dX4_follow_221 (fun H locs hP hS => ?_)
          exact hb224 _ _ hF _ _ _ (lv_sub hl [0, 1, 2, 3, 4, 5, 6, 7] rfl) hP hS
      have hb203 : ∀ (a7 : Int32) (a9 : Int32) (s0 : Nat) (s1 : Int32) (s2 : Int32) (M : Mem), F4_follow_b203 kh v0 v1 v2 v3 v4 v5 v6 a7 a9 s0 s1 s2 M = some q → isA 40 s0 → ∀ (H : Heap) (locs : List Loc) (ls : Array Slot), lv_has ls 10 [(0, .ref (g.1 v0)), (1, .ref (g.1 v1)), (2, .ref (g.1 v2)), (3, .ref (g.1 v3)), (4, .int v4), (5, .int v5), (6, .int v6), (7, .int a7), (9, .int a9)] → va_P g.2.2.1 vwCl (wL g M mm) H → va_S (AA g s.heap.size) s.heap H locs → W p l e { frames := 1, cells := 0, slots := 0, locals := 27 } s m args below meth c H locs 0 0 (MQ below (QV g s.heap.size (q, mm)) args s 0 0 (AA g s.heap.size)) (F0 m 203 ls [.int s2, .int s1, .ref (g.1 s0)]) := by
        intro a7 a9 s0 s1 s2 M hF h_s0 H locs ls hl hP hS
        unfold F4_follow_b203 at hF
        obtain ⟨hi25, hF⟩ := ck_ok hF
        refine ra_st Z hP hS h_s0 hi25 dX4_follow_203 (fun H locs hP hS => ?_)
        exact hb204 _ _ _ hF _ _ _ (lv_sub hl [0, 1, 2, 3, 4, 5, 6, 7, 8] rfl) hP hS
      have hb181 : ∀ (a7 : Int32) (a9 : Int32) (s0 : Nat) (s1 : Int32) (s2 : Int32) (s3 : Int32) (M : Mem), F4_follow_b181 kh v0 v1 v2 v3 v4 v5 v6 a7 a9 s0 s1 s2 s3 M = some q → isO 4 s0 → ∀ (H : Heap) (locs : List Loc) (ls : Array Slot), lv_has ls 10 [(0, .ref (g.1 v0)), (1, .ref (g.1 v1)), (2, .ref (g.1 v2)), (3, .ref (g.1 v3)), (4, .int v4), (5, .int v5), (6, .int v6), (7, .int a7), (9, .int a9)] → va_P g.2.2.1 vwCl (wL g M mm) H → va_S (AA g s.heap.size) s.heap H locs → W p l e { frames := 1, cells := 0, slots := 0, locals := 27 } s m args below meth c H locs 0 0 (MQ below (QV g s.heap.size (q, mm)) args s 0 0 (AA g s.heap.size)) (F0 m 181 ls [.int s3, .int s2, .int s1, .ref (g.1 s0)]) := by
        intro a7 a9 s0 s1 s2 s3 M hF h_s0 H locs ls hl hP hS
        unfold F4_follow_b181 at hF
        obtain ⟨q26, hq26, hF⟩ := bd_ok hF
        refine xX4_come Z hP hS h_s0 hq26 wd_21_20 hl.1 (Nat.le_of_ble_eq_true rfl) ⟨Nat.le_of_ble_eq_true rfl, Nat.le_of_ble_eq_true rfl⟩ dX4_follow_181 (fun H locs hP hS => ?_)
        refine lv_aload_n hx hb dX4_follow_184 rfl (lv_at hl 0 rfl) ?_
        refine gf4_3 Z hP h0 wd_5_17 dX4_follow_185 ?_
        refine lv_iload hx hb dX4_follow_188 (lv_at hl 7 rfl) ?_
        refine lv_aload_n hx hb dX4_follow_190 rfl (lv_at hl 0 rfl) ?_
        refine gf4_5 Z hP h0 wd_21_2 dX4_follow_191 ?_
        refine lv_iconst (v := (-1 : Int32)) hx hb dX4_follow_194 ic_m1 ?_
        refine lv_icmp_ne (tgt := 202) hx hb dX4_follow_195 rfl (fun hc => ?_) (fun hc => ?_)
        · have hF := (if_neg hc).symm.trans hF
          refine lv_iconst (v := (1 : Int32)) hx hb dX4_follow_202 ic_1 ?_
          exact hb203 _ _ _ _ _ _ hF (ia_4_3 h0) _ _ _ (lv_sub hl [0, 1, 2, 3, 4, 5, 6, 7, 8] rfl) hP hS
        · have hF := (if_pos hc).symm.trans hF
          refine lv_iconst (v := (0 : Int32)) hx hb dX4_follow_198 ic_0 ?_
          refine lv_goto (tgt := 203) hx hb dX4_follow_199 rfl ?_
          exact hb203 _ _ _ _ _ _ hF (ia_4_3 h0) _ _ _ (lv_sub hl [0, 1, 2, 3, 4, 5, 6, 7, 8] rfl) hP hS
      have hb170 : ∀ (a7 : Int32) (a9 : Int32) (s0 : Nat) (s1 : Int32) (s2 : Int32) (M : Mem), F4_follow_b170 kh v0 v1 v2 v3 v4 v5 v6 a7 a9 s0 s1 s2 M = some q → isO 4 s0 → ∀ (H : Heap) (locs : List Loc) (ls : Array Slot), lv_has ls 10 [(0, .ref (g.1 v0)), (1, .ref (g.1 v1)), (2, .ref (g.1 v2)), (3, .ref (g.1 v3)), (4, .int v4), (5, .int v5), (6, .int v6), (7, .int a7), (9, .int a9)] → va_P g.2.2.1 vwCl (wL g M mm) H → va_S (AA g s.heap.size) s.heap H locs → W p l e { frames := 1, cells := 0, slots := 0, locals := 27 } s m args below meth c H locs 0 0 (MQ below (QV g s.heap.size (q, mm)) args s 0 0 (AA g s.heap.size)) (F0 m 170 ls [.int s2, .int s1, .ref (g.1 s0)]) := by
        intro a7 a9 s0 s1 s2 M hF h_s0 H locs ls hl hP hS
        unfold F4_follow_b170 at hF
        refine lv_iload hx hb dX4_follow_170 (lv_at hl 6 rfl) ?_
        refine lv_iconst (v := (1 : Int32)) hx hb dX4_follow_172 ic_1 ?_
        refine lv_icmp_ne (tgt := 180) hx hb dX4_follow_173 rfl (fun hc => ?_) (fun hc => ?_)
        · have hF := (if_neg hc).symm.trans hF
          refine lv_iconst (v := (0 : Int32)) hx hb dX4_follow_180 ic_0 ?_
          exact hb181 _ _ _ _ _ _ _ hF h_s0 _ _ _ (lv_sub hl [0, 1, 2, 3, 4, 5, 6, 7, 8] rfl) hP hS
        · have hF := (if_pos hc).symm.trans hF
          refine lv_iconst (v := (1 : Int32)) hx hb dX4_follow_176 ic_1 ?_
          refine lv_goto (tgt := 181) hx hb dX4_follow_177 rfl ?_
          exact hb181 _ _ _ _ _ _ _ hF h_s0 _ _ _ (lv_sub hl [0, 1, 2, 3, 4, 5, 6, 7, 8] rfl) hP hS
      have hb169 : ∀ (a7 : Int32) (a9 : Int32) (s0 : Nat) (s1 : Int32) (M : Mem), F4_follow_b169 kh v0 v1 v2 v3 v4 v5 v6 a7 a9 s0 s1 M = some q → isO 4 s0 → ∀ (H : Heap) (locs : List Loc) (ls : Array Slot), lv_has ls 10 [(0, .ref (g.1 v0)), (1, .ref (g.1 v1)), (2, .ref (g.1 v2)), (3, .ref (g.1 v3)), (4, .int v4), (5, .int v5), (6, .int v6), (7, .int a7), (9, .int a9)] → va_P g.2.2.1 vwCl (wL g M mm) H → va_S (AA g s.heap.size) s.heap H locs → W p l e { frames := 1, cells := 0, slots := 0, locals := 27 } s m args below meth c H locs 0 0 (MQ below (QV g s.heap.size (q, mm)) args s 0 0 (AA g s.heap.size)) (F0 m 169 ls [.int s1, .ref (g.1 s0)]) := by
        intro a7 a9 s0 s1 M hF h_s0 H locs ls hl hP hS
        unfold F4_follow_b169 at hF
        refine lv_iconst (v := (0 : Int32)) hx hb dX4_follow_169 ic_0 ?_
        exact hb170 _ _ _ _ _ _ hF h_s0 _ _ _ (lv_sub hl [0, 1, 2, 3, 4, 5, 6, 7, 8] rfl) hP hS
      have hb134 : ∀ (a7 : Int32) (a8 : Int32) (s0 : Int32) (M : Mem), F4_follow_b134 kh v0 v1 v2 v3 v4 v5 v6 a7 a8 s0 M = some q → ∀ (H : Heap) (locs : List Loc) (ls : Array Slot), lv_has ls 10 [(0, .ref (g.1 v0)), (1, .ref (g.1 v1)), (2, .ref (g.1 v2)), (3, .ref (g.1 v3)), (4, .int v4), (5, .int v5), (6, .int v6), (7, .int a7), (8, .int a8)] → va_P g.2.2.1 vwCl (wL g M mm) H → va_S (AA g s.heap.size) s.heap H locs → W p l e { frames := 1, cells := 0, slots := 0, locals := 27 } s m args below meth c H locs 0 0 (MQ below (QV g s.heap.size (q, mm)) args s 0 0 (AA g s.heap.size)) (F0 m 134 ls [.int s0]) := by
        intro a7 a8 s0 M hF H locs ls hl hP hS
        unfold F4_follow_b134 at hF
        refine lv_istore (lv' := [(9, .int s0), (0, .ref (g.1 v0)), (1, .ref (g.1 v1)), (2, .ref (g.1 v2)), (3, .ref (g.1 v3)), (4, .int v4), (5, .int v5), (6, .int v6), (7, .int a7), (8, .int a8)]) hx hb dX4_follow_134 hl (Nat.le_of_ble_eq_true rfl) rfl (fun ls hl => ?_)
        refine lv_iload hx hb dX4_follow_136 (lv_at hl 9 rfl) ?_
        refine lv_aload_n hx hb dX4_follow_138 rfl (lv_at hl 1 rfl) ?_
        refine gf4_5 Z hP h0 wd_21_2 dX4_follow_139 ?_
        refine lv_icmp_eq (tgt := 204) hx hb dX4_follow_142 rfl (fun hc => ?_) (fun hc => ?_)
        · have hF := (if_pos hc).symm.trans hF
          exact hb204 _ _ _ hF _ _ _ (lv_sub hl [1, 2, 3, 4, 5, 6, 7, 8, 0] rfl) hP hS
        · have hF := (if_neg hc).symm.trans hF
          refine lv_aload_n hx hb dX4_follow_145 rfl (lv_at hl 1 rfl) ?_
          refine lv_iload hx hb dX4_follow_146 (lv_at hl 9 rfl) ?_
          refine lv_iload hx hb dX4_follow_148 (lv_at hl 9 rfl) ?_
          refine lv_iconst (v := (-1 : Int32)) hx hb dX4_follow_150 ic_m1 ?_
          refine lv_icmp_eq (tgt := 169) hx hb dX4_follow_151 rfl (fun hc => ?_) (fun hc => ?_)
          · have hF := (if_pos hc).symm.trans hF
            exact hb169 _ _ _ _ _ hF h0 _ _ _ (lv_sub hl [1, 2, 3, 4, 5, 6, 7, 8, 0] rfl) hP hS
          · have hF := (if_neg hc).symm.trans hF
            refine lv_aload_n hx hb dX4_follow_154 rfl (lv_at hl 2 rfl) ?_
            refine gf8_0N Z hP h1 nf_38 dX4_follow_155 ?_
            refine lv_iload hx hb dX4_follow_158 (lv_at hl 9 rfl) ?_
            obtain ⟨hi27, hF⟩ := ck_ok hF
            refine ra_ld Z hP (ia_8_0 h1) hi27 dX4_follow_160 ?_
            refine lv_iconst (v := (1 : Int32)) hx hb dX4_follow_161 ic_1 ?_
            refine lv_icmp_ne (tgt := 169) hx hb dX4_follow_162 rfl (fun hc => ?_) (fun hc => ?_)
            · have hF := (if_neg hc).symm.trans hF
              exact hb169 _ _ _ _ _ hF h0 _ _ _ (lv_sub hl [1, 2, 3, 4, 5, 6, 7, 8, 0] rfl) hP hS
            · have hF := (if_pos hc).symm.trans hF
              refine lv_iconst (v := (1 : Int32)) hx hb dX4_follow_165 ic_1 ?_
              refine lv_goto (tgt := 170) hx hb dX4_follow_166 rfl ?_
              exact hb170 _ _ _ _ _ _ hF h0 _ _ _ (lv_sub hl [1, 2, 3, 4, 5, 6, 7, 8, 0] rfl) hP hS
      have hb129 : ∀ (a7 : Int32) (a8 : Int32) (M : Mem), F4_follow_b129 kh v0 v1 v2 v3 v4 v5 v6 a7 a8 M = some q → ∀ (H : Heap) (locs : List Loc) (ls : Array Slot), lv_has ls 10 [(0, .ref (g.1 v0)), (1, .ref (g.1 v1)), (2, .ref (g.1 v2)), (3, .ref (g.1 v3)), (4, .int v4), (5, .int v5), (6, .int v6), (7, .int a7), (8, .int a8)] → va_P g.2.2.1 vwCl (wL g M mm) H → va_S (AA g s.heap.size) s.heap H locs → W p l e { frames := 1, cells := 0, slots := 0, locals := 27 } s m args below meth c H locs 0 0 (MQ below (QV g s.heap.size (q, mm)) args s 0 0 (AA g s.heap.size)) (F0 m 129 ls []) := by
        intro a7 a8 M hF H locs ls hl hP hS
        unfold F4_follow_b129 at hF
        refine lv_iconst (v := (1 : Int32)) hx hb dX4_follow_129 ic_1 ?_
        refine lv_goto (tgt := 134) hx hb dX4_follow_130 rfl ?_
        exact hb134 _ _ _ _ hF _ _ _ (lv_sub hl [0, 1, 2, 3, 4, 5, 6, 7, 8] rfl) hP hS
      intro a7 M hF H locs ls hl hP hS
      have hF : F4_follow_p34 (F4_follow_h34 v0 v1 v2 v3 v4 v5 v6 n) v0 v1 v2 v3 v4 v5 v6 a7 M = some q := hF
      rw [hkh] at hF
      unfold F4_follow_p34 at hF
      refine lv_iload hx hb dX4_follow_34 (lv_at hl 7 rfl) ?_
      refine lv_bipush (v := (40 : Int32)) hx hb dX4_follow_36 bp_40 ?_
      refine lv_icmp_ge (tgt := 263) hx hb dX4_follow_38 rfl (fun hc => ?_) (fun hc => ?_)
      · have hF := (if_pos hc).symm.trans hF
        exact ret_VWC Z hr hlk hP hS hF dX4_follow_263
      · have hF := (if_neg hc).symm.trans hF
        refine lv_aload_n hx hb dX4_follow_41 rfl (lv_at hl 0 rfl) ?_
        refine gf4_3 Z hP h0 wd_5_17 dX4_follow_42 ?_
        refine lv_iload hx hb dX4_follow_45 (lv_at hl 7 rfl) ?_
        refine lv_iconst (v := (0 : Int32)) hx hb dX4_follow_47 ic_0 ?_
        obtain ⟨hi28, hF⟩ := ck_ok hF
        refine ra_st Z hP hS (ia_4_3 h0) hi28 dX4_follow_48 (fun H locs hP hS => ?_)
        refine lv_iload hx hb dX4_follow_49 (lv_at hl 7 rfl) ?_
        refine lv_aload_n hx hb dX4_follow_51 rfl (lv_at hl 3 rfl) ?_
        refine gf5_0N Z hP h3 nf_36 dX4_follow_52 ?_
        refine lv_iload hx hb dX4_follow_55 (lv_at hl 4 rfl) ?_
        obtain ⟨M29, eM29, hF⟩ := lt_ok hF
        have hP : va_P g.2.2.1 vwCl (wL g M29 mm) H := by rw [eM29]; exact hP
        obtain ⟨hi30, hF⟩ := ck_ok hF
        refine ra_ld Z hP (ia_5_0 h3) hi30 dX4_follow_57 ?_
        refine lv_icmp_ne (tgt := 93) hx hb dX4_follow_58 rfl (fun hc => ?_) (fun hc => ?_)
        · have hF := (if_neg hc).symm.trans hF
          refine lv_aload_n hx hb dX4_follow_93 rfl (lv_at hl 0 rfl) ?_
          refine gf4_5 Z hP h0 wd_21_2 dX4_follow_94 ?_
          refine lv_iconst (v := (-1 : Int32)) hx hb dX4_follow_97 ic_m1 ?_
          refine lv_icmp_eq (tgt := 224) hx hb dX4_follow_98 rfl (fun hc => ?_) (fun hc => ?_)
          · have hF := (if_pos hc).symm.trans hF
            exact hb224 _ _ hF _ _ _ (lv_sub hl [0, 1, 2, 3, 4, 5, 6, 7] rfl) hP hS
          · have hF := (if_neg hc).symm.trans hF
            refine lv_aload_n hx hb dX4_follow_101 rfl (lv_at hl 0 rfl) ?_
            refine lv_aload_n hx hb dX4_follow_102 rfl (lv_at hl 1 rfl) ?_
            refine lv_aload_n hx hb dX4_follow_103 rfl (lv_at hl 2 rfl) ?_
            refine lv_iload hx hb dX4_follow_104 (lv_at hl 7 rfl) ?_
            obtain ⟨q31, hq31, hF⟩ := bd_ok hF
            refine xX4_next Z hP hS h0 h1 h2 hq31 wd_21_16 hl.1 (Nat.le_of_ble_eq_true rfl) ⟨Nat.le_of_ble_eq_true rfl, Nat.le_of_ble_eq_true rfl⟩ dX4_follow_106 (fun H locs hP hS => ?_)
            refine lv_istore (lv' := [(8, .int q31), (0, .ref (g.1 v0)), (1, .ref (g.1 v1)), (2, .ref (g.1 v2)), (3, .ref (g.1 v3)), (4, .int v4), (5, .int v5), (6, .int v6), (7, .int a7)]) hx hb dX4_follow_109 hl (Nat.le_of_ble_eq_true rfl) rfl (fun ls hl => ?_)
            refine lv_iload hx hb dX4_follow_111 (lv_at hl 0 rfl) ?_
            refine lv_aload_n hx hb dX4_follow_113 rfl (lv_at hl 1 rfl) ?_
            refine gf4_5 Z hP h0 wd_21_2 dX4_follow_114 ?_
            refine lv_icmp_ne (tgt := 129) hx hb dX4_follow_117 rfl (fun hc => ?_) (fun hc => ?_)
            · have hF := (if_neg hc).symm.trans hF
              exact hb129 _ _ _ hF _ _ _ (lv_sub hl [1, 2, 3, 4, 5, 6, 7, 8, 0] rfl) hP hS
            · have hF := (if_pos hc).symm.trans hF
              refine lv_iload hx hb dX4_follow_120 (lv_at hl 8 rfl) ?_
              refine lv_aload_n hx hb dX4_follow_122 rfl (lv_at hl 1 rfl) ?_
              refine gf4_6 Z hP h0 wd_21_7 dX4_follow_123 ?_
              refine lv_icmp_ne (tgt := 133) hx hb dX4_follow_126 rfl (fun hc => ?_) (fun hc => ?_)
              · have hF := (if_neg hc).symm.trans hF
                refine lv_iconst (v := (0 : Int32)) hx hb dX4_follow_133 ic_0 ?_
                exact hb134 _ _ _ _ hF _ _ _ (lv_sub hl [1, 2, 3, 4, 5, 6, 7, 8, 0] rfl) hP hS
              · have hF := (if_pos hc).symm.trans hF
                exact hb129 _ _ _ hF _ _ _ (lv_sub hl [1, 2, 3, 4, 5, 6, 7, 8, 0] rfl) hP hS
        · have hF := (if_pos hc).symm.trans hF
          refine lv_aload_n hx hb dX4_follow_61 rfl (lv_at hl 0 rfl) ?_
          refine lv_aload_n hx hb dX4_follow_62 rfl (lv_at hl 1 rfl) ?_
          refine lv_aload_n hx hb dX4_follow_63 rfl (lv_at hl 2 rfl) ?_
          refine gf3_1N Z hP h2 nf_37 dX4_follow_64 ?_
          refine lv_iload hx hb dX4_follow_67 (lv_at hl 7 rfl) ?_
          obtain ⟨hi32, hF⟩ := ck_ok hF
          refine ra_ld Z hP (ia_3_1 h2) hi32 dX4_follow_69 ?_
          refine lv_iload hx hb dX4_follow_70 (lv_at hl 5 rfl) ?_
          obtain ⟨q33, hq33, hF⟩ := bd_ok hF
          refine xX4_begin Z hP hS h0 h1 hq33 wd_21_8 hl.1 (Nat.le_of_ble_eq_true rfl) ⟨Nat.le_of_ble_eq_true rfl, Nat.le_of_ble_eq_true rfl⟩ dX4_follow_72 (fun H locs hP hS => ?_)
          refine lv_aload_n hx hb dX4_follow_75 rfl (lv_at hl 0 rfl) ?_
          refine lv_iload hx hb dX4_follow_76 (lv_at hl 7 rfl) ?_
          refine lv_aload_n hx hb dX4_follow_78 rfl (lv_at hl 1 rfl) ?_
          refine lv_aload_n hx hb dX4_follow_79 rfl (lv_at hl 0 rfl) ?_
          refine gf4_5 Z hP h0 wd_21_2 dX4_follow_80 ?_
          obtain ⟨q34, hq34, hF⟩ := bd_ok hF
          refine xX8_stay Z hP hS h1 hq34 wd_21_12 hl.1 (Nat.le_of_ble_eq_true rfl) ⟨Nat.le_of_ble_eq_true rfl, Nat.le_of_ble_eq_true rfl⟩ dX4_follow_83 (fun H locs hP hS => ?_)
          refine lv_iadd hx hb dX4_follow_86 ?_
          refine pf4_6 Z hP hS h0 wd_21_7 dX4_follow_87 (fun H locs hP hS => ?_)
          refine lv_goto (tgt := 224) hx hb dX4_follow_90 rfl ?_
          exact hb224 _ _ hF _ _ _ (lv_sub hl [0, 1, 2, 3, 4, 5, 6, 7] rfl) hP hS
  refine lv_aload_n hx hb dX4_follow_0 rfl (lv_at hl 0 rfl) ?_
  refine lv_iconst (v := (-1 : Int32)) hx hb dX4_follow_1 ic_m1 ?_
  refine pf4_5 Z hP hS h0 wd_21_2 dX4_follow_2 (fun H locs hP hS => ?_)
  refine lv_aload_n hx hb dX4_follow_5 rfl (lv_at hl 0 rfl) ?_
  refine lv_iconst (v := (0 : Int32)) hx hb dX4_follow_6 ic_0 ?_
  refine pf4_7 Z hP hS h0 wd_21_3 dX4_follow_7 (fun H locs hP hS => ?_)
  refine lv_aload_n hx hb dX4_follow_10 rfl (lv_at hl 0 rfl) ?_
  refine lv_iconst (v := (0 : Int32)) hx hb dX4_follow_11 ic_0 ?_
  refine pf4_8 Z hP hS h0 wd_21_4 dX4_follow_12 (fun H locs hP hS => ?_)
  refine lv_aload_n hx hb dX4_follow_15 rfl (lv_at hl 0 rfl) ?_
  refine lv_aload_n hx hb dX4_follow_16 rfl (lv_at hl 3 rfl) ?_
  refine gf5_3N Z hP h3 nf_35 dX4_follow_17 ?_
  refine lv_iload hx hb dX4_follow_20 (lv_at hl 4 rfl) ?_
  obtain ⟨M35, eM35, hF⟩ := lt_ok hF
  have hP : va_P g.2.2.1 vwCl (wL g M35 mm) H := by rw [eM35]; exact hP
  obtain ⟨hi36, hF⟩ := ck_ok hF
  refine ra_ld Z hP (ia_5_3 h3) hi36 dX4_follow_22 ?_
  refine pf4_9 Z hP hS h0 wd_21_5 dX4_follow_23 (fun H locs hP hS => ?_)
  refine lv_aload_n hx hb dX4_follow_26 rfl (lv_at hl 0 rfl) ?_
  refine lv_iconst (v := (0 : Int32)) hx hb dX4_follow_27 ic_0 ?_
  refine pf4_4 Z hP hS h0 wd_21_6 dX4_follow_28 (fun H locs hP hS => ?_)
  refine lv_iconst (v := (0 : Int32)) hx hb dX4_follow_31 ic_0 ?_
  refine lv_istore (lv' := [(7, .int (0 : Int32)), (0, .ref (g.1 v0)), (1, .ref (g.1 v1)), (2, .ref (g.1 v2)), (3, .ref (g.1 v3)), (4, .int v4), (5, .int v5), (6, .int v6)]) hx hb dX4_follow_32 hl (Nat.le_of_ble_eq_true rfl) rfl (fun ls hl => ?_)
  exact (hL34 FU) _ _ hF _ _ _ (lv_sub hl [1, 2, 3, 4, 5, 6, 7, 0] rfl) hP hS
theorem xX4_follow {p : Program} {l : Launch} {e : Env} {R : Room} {s : State} {m : MethodId} {args : Array Value} {below : List Frame} {meth : Method} {c : Code} {H : Heap} {locs : List Loc} {Q : State → Prop} {cc : ByteArray} {nL : Nat} {own : String} {g : GG} {pc index : Nat} {ls : Array Slot} {rest : List Value} {mc mm : Mem} (Z : ZZ p s m args c cc nL own g) (hP : va_P g.2.2.1 vwCl (wL g mc mm) H) (hS : va_S (AA g s.heap.size) s.heap H locs) {v0 : Nat} {v1 : Nat} {v2 : Nat} {v3 : Nat} {v4 : Int32} {v5 : Int32} {v6 : Int32} (h0 : isO 4 v0) (h1 : isO 8 v1) (h2 : isO 3 v2) (h3 : isO 5 v3) {q : Mem} (hq : F4_follow v0 v1 v2 v3 v4 v5 v6 mc = some q) (hlk : Cond.methodLink own index yX4_follow ∈ wsL_law) (hsz : ls.size = nL) (hro : (rest.map fun v => v.category).sum ≤ 8) (hR : 1 + 1 ≤ R.frames ∧ 8 + (10 + 11) + 27 ≤ R.locals) (hdg : decode cc pc = .ok (.invokevirtual index, 3)) (kk : ∀ (H : Heap) (locs : List Loc), va_P g.2.2.1 vwCl (wL g q mm) H → va_S (AA g s.heap.size) s.heap H locs → W p l e R s m args below meth c H locs 0 0 Q (F0 m (pc + 3) ls (rest))) : W p l e R s m args below meth c H locs 0 0 Q (F0 m pc ls (.int v6 :: .int v5 :: .int v4 :: .ref (g.1 v3) :: .ref (g.1 v2) :: .ref (g.1 v1) :: .ref (g.1 v0) :: rest)) :=
  x_VV Z hP hS (kX4_follow l g v0 v1 v2 v3 v4 v5 v6 h0 h1 h2 h3 mc mm q hq) (isO_w h0) (ci := 4) (by decide) rfl rfl mf_X4_follow mv_X4_follow hlk rfl rfl hsz hro hR hdg kk
theorem dX4_isHeardAt_0 : decode cX4_isHeardAt 0 = .ok (.iload_n 1, 1) := by decide +kernel
theorem dX4_isHeardAt_1 : decode cX4_isHeardAt 1 = .ok (.bipush 8, 2) := by decide +kernel
theorem dX4_isHeardAt_3 : decode cX4_isHeardAt 3 = .ok (.invokestatic 96, 3) := by decide +kernel
theorem dX4_isHeardAt_6 : decode cX4_isHeardAt 6 = .ok (.ifCond .eq 19, 3) := by decide +kernel
theorem dX4_isHeardAt_9 : decode cX4_isHeardAt 9 = .ok (.aload_n 0, 1) := by decide +kernel
theorem dX4_isHeardAt_10 : decode cX4_isHeardAt 10 = .ok (.getfield 42, 3) := by decide +kernel
theorem dX4_isHeardAt_13 : decode cX4_isHeardAt 13 = .ok (.iload_n 1, 1) := by decide +kernel
theorem dX4_isHeardAt_14 : decode cX4_isHeardAt 14 = .ok (.ishr, 1) := by decide +kernel
theorem dX4_isHeardAt_15 : decode cX4_isHeardAt 15 = .ok (.iconst 1, 1) := by decide +kernel
theorem dX4_isHeardAt_16 : decode cX4_isHeardAt 16 = .ok (.iand, 1) := by decide +kernel
theorem dX4_isHeardAt_17 : decode cX4_isHeardAt 17 = .ok (.iconst 1, 1) := by decide +kernel
theorem dX4_isHeardAt_18 : decode cX4_isHeardAt 18 = .ok (.if_icmp .ne 7, 3) := by decide +kernel
theorem dX4_isHeardAt_21 : decode cX4_isHeardAt 21 = .ok (.iconst 1, 1) := by decide +kernel
theorem dX4_isHeardAt_22 : decode cX4_isHeardAt 22 = .ok (.goto 4, 3) := by decide +kernel
theorem dX4_isHeardAt_25 : decode cX4_isHeardAt 25 = .ok (.iconst 0, 1) := by decide +kernel
theorem dX4_isHeardAt_26 : decode cX4_isHeardAt 26 = .ok (.ireturn, 1) := by decide +kernel
noncomputable def F4_isHeardAt_b25 (v0 : Nat) (v1 : Int32) (mc : Mem) : Option (Int32) :=
  some (0 : Int32)
noncomputable def F4_isHeardAt (v0 : Nat) (v1 : Int32) (mc : Mem) : Option (Int32) :=
  ((F9_in v1 (8 : Int32)).bind (fun q2 => (if q2 = (0 : Int32) then (F4_isHeardAt_b25 v0 v1 mc) else (if (((mc v0 4) >>> (v1 &&& (31 : Int32))) &&& (1 : Int32)) = (1 : Int32) then some (1 : Int32) else (F4_isHeardAt_b25 v0 v1 mc)))))
set_option maxHeartbeats 4000000 in
set_option maxRecDepth 100000 in
theorem kX4_isHeardAt (l : Launch) (g : GG) (v0 : Nat) (v1 : Int32) (h0 : isO 4 v0) (mc mm : Mem) (q : Int32) (hF : F4_isHeardAt v0 v1 mc = some q) : KI l yX4_isHeardAt cX4_isHeardAt 2 .boolean 1 21 g [.ref (g.1 v0), .int v1] mc mm q (mc, mm) := by
  intro sz
  refine x_start (Qc := fun z => QI g z q (mc, mm)) (by decide +kernel) (Nat.le_of_ble_eq_true rfl) ?_ sz
  intro p e s m args below meth c ls Z hr hlk hP hl
  have hx := Z.1.1
  have hb := Z.1.2.1
  have hown := Z.1.2.2.2.1
  have hts := Z.1.2.2.2.2
  have hS : va_S (AA g s.heap.size) s.heap s.heap [] := va_S.rf
  have hl : lv_has ls 2 [(0, .ref (g.1 v0)), (1, .int v1)] := hl
  unfold F4_isHeardAt at hF
  have hb25 : F4_isHeardAt_b25 v0 v1 mc = some q → ∀ (H : Heap) (locs : List Loc) (ls : Array Slot), lv_has ls 2 [] → va_P g.2.2.1 vwCl (wL g mc mm) H → va_S (AA g s.heap.size) s.heap H locs → W p l e { frames := 1, cells := 0, slots := 0, locals := 21 } s m args below meth c H locs 0 0 (MQ below (QI g s.heap.size q (mc, mm)) args s 0 0 (AA g s.heap.size)) (F0 m 25 ls []) := by
    intro hF H locs ls hl hP hS
    unfold F4_isHeardAt_b25 at hF
    refine lv_iconst (v := (0 : Int32)) hx hb dX4_isHeardAt_25 ic_0 ?_
    exact ret_Z Z hr hlk hP hS (Or.inl rfl) hF dX4_isHeardAt_26
  refine lv_iload_n hx hb dX4_isHeardAt_0 rfl (lv_at hl 1 rfl) ?_
  refine lv_bipush (v := (8 : Int32)) hx hb dX4_isHeardAt_1 bp_8 ?_
  obtain ⟨q2, hq2, hF⟩ := bd_ok hF
  refine xX9_inN Z hP hS hq2 nm_9 hl.1 (Nat.le_of_ble_eq_true rfl) ⟨Nat.le_of_ble_eq_true rfl, Nat.le_of_ble_eq_true rfl⟩ dX4_isHeardAt_3 (fun H locs hP hS => ?_)
  refine lv_if_eq (tgt := 25) hx hb dX4_isHeardAt_6 rfl (fun hc => ?_) (fun hc => ?_)
  · have hF := (if_pos hc).symm.trans hF
    exact hb25  hF _ _ _ (lv_sub hl [] rfl) hP hS
  · have hF := (if_neg hc).symm.trans hF
    refine lv_aload_n hx hb dX4_isHeardAt_9 rfl (lv_at hl 0 rfl) ?_
    refine gf4_4 Z hP h0 wd_21_6 dX4_isHeardAt_10 ?_
    refine lv_iload_n hx hb dX4_isHeardAt_13 rfl (lv_at hl 1 rfl) ?_
    refine lv_ishr hx hb dX4_isHeardAt_14 ?_
    refine lv_iconst (v := (1 : Int32)) hx hb dX4_isHeardAt_15 ic_1 ?_
    refine lv_iand hx hb dX4_isHeardAt_16 ?_
    refine lv_iconst (v := (1 : Int32)) hx hb dX4_isHeardAt_17 ic_1 ?_
    refine lv_icmp_ne (tgt := 25) hx hb dX4_isHeardAt_18 rfl (fun hc => ?_) (fun hc => ?_)
    · have hF := (if_neg hc).symm.trans hF
      exact hb25  hF _ _ _ (lv_sub hl [] rfl) hP hS
    · have hF := (if_pos hc).symm.trans hF
      refine lv_iconst (v := (1 : Int32)) hx hb dX4_isHeardAt_21 ic_1 ?_
      refine lv_goto (tgt := 26) hx hb dX4_isHeardAt_22 rfl ?_
      exact ret_Z Z hr hlk hP hS (Or.inr rfl) hF dX4_isHeardAt_26
theorem xX4_isHeardAt {p : Program} {l : Launch} {e : Env} {R : Room} {s : State} {m : MethodId} {args : Array Value} {below : List Frame} {meth : Method} {c : Code} {H : Heap} {locs : List Loc} {Q : State → Prop} {cc : ByteArray} {nL : Nat} {own : String} {g : GG} {pc index : Nat} {ls : Array Slot} {rest : List Value} {mc mm : Mem} (Z : ZZ p s m args c cc nL own g) (hP : va_P g.2.2.1 vwCl (wL g mc mm) H) (hS : va_S (AA g s.heap.size) s.heap H locs) {v0 : Nat} {v1 : Int32} (h0 : isO 4 v0) {q : Int32} (hq : F4_isHeardAt v0 v1 mc = some q) (hlk : Cond.methodLink own index yX4_isHeardAt ∈ wsL_law) (hsz : ls.size = nL) (hro : (rest.map fun v => v.category).sum ≤ 8) (hR : 1 + 1 ≤ R.frames ∧ 8 + (2 + 11) + 21 ≤ R.locals) (hdg : decode cc pc = .ok (.invokevirtual index, 3)) (kk : ∀ (H : Heap) (locs : List Loc), va_P g.2.2.1 vwCl (wL g mc mm) H → va_S (AA g s.heap.size) s.heap H locs → W p l e R s m args below meth c H locs 0 0 Q (F0 m (pc + 3) ls (.int q :: rest))) : W p l e R s m args below meth c H locs 0 0 Q (F0 m pc ls (.int v1 :: .ref (g.1 v0) :: rest)) :=
  x_VI Z hP hS (kX4_isHeardAt l g v0 v1 h0 mc mm q hq) (isO_w h0) (ci := 4) (by decide) rfl rfl mf_X4_isHeardAt mv_X4_isHeardAt hlk rfl rfl hsz hro hR hdg kk
theorem dX4_firstHeard_0 : decode cX4_firstHeard 0 = .ok (.iconst 0, 1) := by decide +kernel
theorem dX4_firstHeard_1 : decode cX4_firstHeard 1 = .ok (.istore_n 2, 1) := by decide +kernel
theorem dX4_firstHeard_2 : decode cX4_firstHeard 2 = .ok (.iload_n 2, 1) := by decide +kernel
theorem dX4_firstHeard_3 : decode cX4_firstHeard 3 = .ok (.bipush 40, 2) := by decide +kernel
theorem dX4_firstHeard_5 : decode cX4_firstHeard 5 = .ok (.if_icmp .ge 31, 3) := by decide +kernel
theorem dX4_firstHeard_8 : decode cX4_firstHeard 8 = .ok (.aload_n 0, 1) := by decide +kernel
theorem dX4_firstHeard_9 : decode cX4_firstHeard 9 = .ok (.getfield 21, 3) := by decide +kernel
theorem dX4_firstHeard_12 : decode cX4_firstHeard 12 = .ok (.iload_n 2, 1) := by decide +kernel
theorem dX4_firstHeard_13 : decode cX4_firstHeard 13 = .ok (.iaload, 1) := by decide +kernel
theorem dX4_firstHeard_14 : decode cX4_firstHeard 14 = .ok (.iconst 1, 1) := by decide +kernel
theorem dX4_firstHeard_15 : decode cX4_firstHeard 15 = .ok (.if_icmp .ne 15, 3) := by decide +kernel
theorem dX4_firstHeard_18 : decode cX4_firstHeard 18 = .ok (.aload_n 0, 1) := by decide +kernel
theorem dX4_firstHeard_19 : decode cX4_firstHeard 19 = .ok (.getfield 9, 3) := by decide +kernel
theorem dX4_firstHeard_22 : decode cX4_firstHeard 22 = .ok (.iload_n 2, 1) := by decide +kernel
theorem dX4_firstHeard_23 : decode cX4_firstHeard 23 = .ok (.iaload, 1) := by decide +kernel
theorem dX4_firstHeard_24 : decode cX4_firstHeard 24 = .ok (.iload_n 1, 1) := by decide +kernel
theorem dX4_firstHeard_25 : decode cX4_firstHeard 25 = .ok (.if_icmp .ne 5, 3) := by decide +kernel
theorem dX4_firstHeard_28 : decode cX4_firstHeard 28 = .ok (.iload_n 2, 1) := by decide +kernel
theorem dX4_firstHeard_29 : decode cX4_firstHeard 29 = .ok (.ireturn, 1) := by decide +kernel
theorem dX4_firstHeard_30 : decode cX4_firstHeard 30 = .ok (.iinc 2 1, 3) := by decide +kernel
theorem dX4_firstHeard_33 : decode cX4_firstHeard 33 = .ok (.goto (-31), 3) := by decide +kernel
theorem dX4_firstHeard_36 : decode cX4_firstHeard 36 = .ok (.iconst (-1), 1) := by decide +kernel
theorem dX4_firstHeard_37 : decode cX4_firstHeard 37 = .ok (.ireturn, 1) := by decide +kernel
noncomputable def F4_firstHeard_b30 (kh : Int32 → Option (Int32)) (v0 : Nat) (v1 : Int32) (mc : Mem) (a2 : Int32) : Option (Int32) :=
  kh (a2 + (1 : Int32))
noncomputable def F4_firstHeard_p2 (kh : Int32 → Option (Int32)) (v0 : Nat) (v1 : Int32) (mc : Mem) (a2 : Int32) : Option (Int32) :=
  (if (40 : Int32) ≤ a2 then some (-1 : Int32) else (ck a2 40 (if (mc (v0 + 4) a2.toNatClampNeg) = (1 : Int32) then (ck a2 40 (if (mc (v0 + 1) a2.toNatClampNeg) = v1 then some a2 else (F4_firstHeard_b30 kh v0 v1 mc) a2)) else (F4_firstHeard_b30 kh v0 v1 mc) a2)))
noncomputable def F4_firstHeard_h2 (v0 : Nat) (v1 : Int32) (mc : Mem) : Nat → Int32 → Option (Int32)
  | 0, _ => none
  | n + 1, a2 => F4_firstHeard_p2 (F4_firstHeard_h2 v0 v1 mc n) v0 v1 mc a2
noncomputable def F4_firstHeard (v0 : Nat) (v1 : Int32) (mc : Mem) : Option (Int32) :=
  (F4_firstHeard_h2 v0 v1 mc FU) (0 : Int32)
set_option maxHeartbeats 4000000 in
set_option maxRecDepth 100000 in
theorem kX4_firstHeard (l : Launch) (g : GG) (v0 : Nat) (v1 : Int32) (h0 : isO 4 v0) (mc mm : Mem) (q : Int32) (hF : F4_firstHeard v0 v1 mc = some q) : KI l yX4_firstHeard cX4_firstHeard 3 .int 0 0 g [.ref (g.1 v0), .int v1] mc mm q (mc, mm) := by
  intro sz
  refine x_start (Qc := fun z => QI g z q (mc, mm)) (by decide +kernel) (Nat.le_of_ble_eq_true rfl) ?_ sz
  intro p e s m args below meth c ls Z hr hlk hP hl
  have hx := Z.1.1
  have hb := Z.1.2.1
  have hown := Z.1.2.2.2.1
  have hts := Z.1.2.2.2.2
  have hS : va_S (AA g s.heap.size) s.heap s.heap [] := va_S.rf
  have hl : lv_has ls 3 [(0, .ref (g.1 v0)), (1, .int v1)] := hl
  unfold F4_firstHeard at hF
  have hL2 : ∀ n : Nat, ∀ (a2 : Int32), F4_firstHeard_h2 v0 v1 mc n a2 = some q → ∀ (H : Heap) (locs : List Loc) (ls : Array Slot), lv_has ls 3 [(0, .ref (g.1 v0)), (1, .int v1), (2, .int a2)] → va_P g.2.2.1 vwCl (wL g mc mm) H → va_S (AA g s.heap.size) s.heap H locs → W p l e { frames := 0, cells := 0, slots := 0, locals := 0 } s m args below meth c H locs 0 0 (MQ below (QI g s.heap.size q (mc, mm)) args s 0 0 (AA g s.heap.size)) (F0 m 2 ls []) := by
    intro n
    induction n with
    | zero => intro a2 hF H locs ls hl hP hS; exact absurd hF (fun z => nomatch (show (none : Option _) = some q from z))
    | succ n ih =>
      generalize hkh : F4_firstHeard_h2 v0 v1 mc n = kh at ih
      have hb30 : ∀ (a2 : Int32), F4_firstHeard_b30 kh v0 v1 mc a2 = some q → ∀ (H : Heap) (locs : List Loc) (ls : Array Slot), lv_has ls 3 [(0, .ref (g.1 v0)), (1, .int v1), (2, .int a2)] → va_P g.2.2.1 vwCl (wL g mc mm) H → va_S (AA g s.heap.size) s.heap H locs → W p l e { frames := 0, cells := 0, slots := 0, locals := 0 } s m args below meth c H locs 0 0 (MQ below (QI g s.heap.size q (mc, mm)) args s 0 0 (AA g s.heap.size)) (F0 m 30 ls []) := by
        intro a2 hF H locs ls hl hP hS
        unfold F4_firstHeard_b30 at hF
        refine lv_iinc (lv' := [(2, .int (a2 + (1 : Int32))), (0, .ref (g.1 v0)), (1, .int v1)]) (v := (a2 + (1 : Int32))) hx hb dX4_firstHeard_30 hl (k := 2) rfl (io_1 _) (Nat.le_of_ble_eq_true rfl) rfl (fun ls hl => ?_)
        refine lv_goto (tgt := 2) hx hb dX4_firstHeard_33 rfl ?_
        exact ih _ hF _ _ _ (lv_sub hl [1, 2, 0] rfl) hP hS
      intro a2 hF H locs ls hl hP hS
      have hF : F4_firstHeard_p2 (F4_firstHeard_h2 v0 v1 mc n) v0 v1 mc a2 = some q := hF
      rw [hkh] at hF
      unfold F4_firstHeard_p2 at hF
      refine lv_iload_n hx hb dX4_firstHeard_2 rfl (lv_at hl 2 rfl) ?_
      refine lv_bipush (v := (40 : Int32)) hx hb dX4_firstHeard_3 bp_40 ?_
      refine lv_icmp_ge (tgt := 36) hx hb dX4_firstHeard_5 rfl (fun hc => ?_) (fun hc => ?_)
      · have hF := (if_pos hc).symm.trans hF
        refine lv_iconst (v := (-1 : Int32)) hx hb dX4_firstHeard_36 ic_m1 ?_
        exact ret_I Z hr hlk hP hS hF dX4_firstHeard_37
      · have hF := (if_neg hc).symm.trans hF
        refine lv_aload_n hx hb dX4_firstHeard_8 rfl (lv_at hl 0 rfl) ?_
        refine gf4_3 Z hP h0 wd_5_17 dX4_firstHeard_9 ?_
        refine lv_iload_n hx hb dX4_firstHeard_12 rfl (lv_at hl 2 rfl) ?_
        obtain ⟨hi3, hF⟩ := ck_ok hF
        refine ra_ld Z hP (ia_4_3 h0) hi3 dX4_firstHeard_13 ?_
        refine lv_iconst (v := (1 : Int32)) hx hb dX4_firstHeard_14 ic_1 ?_
        refine lv_icmp_ne (tgt := 30) hx hb dX4_firstHeard_15 rfl (fun hc => ?_) (fun hc => ?_)
        · have hF := (if_neg hc).symm.trans hF
          exact hb30 _ hF _ _ _ (lv_sub hl [0, 1, 2] rfl) hP hS
        · have hF := (if_pos hc).symm.trans hF
          refine lv_aload_n hx hb dX4_firstHeard_18 rfl (lv_at hl 0 rfl) ?_
          refine gf4_0 Z hP h0 wd_5_14 dX4_firstHeard_19 ?_
          refine lv_iload_n hx hb dX4_firstHeard_22 rfl (lv_at hl 2 rfl) ?_
          obtain ⟨hi4, hF⟩ := ck_ok hF
          refine ra_ld Z hP (ia_4_0 h0) hi4 dX4_firstHeard_23 ?_
          refine lv_iload_n hx hb dX4_firstHeard_24 rfl (lv_at hl 1 rfl) ?_
          refine lv_icmp_ne (tgt := 30) hx hb dX4_firstHeard_25 rfl (fun hc => ?_) (fun hc => ?_)
          · have hF := (if_neg hc).symm.trans hF
            exact hb30 _ hF _ _ _ (lv_sub hl [0, 1, 2] rfl) hP hS
          · have hF := (if_pos hc).symm.trans hF
            refine lv_iload_n hx hb dX4_firstHeard_28 rfl (lv_at hl 2 rfl) ?_
            exact ret_I Z hr hlk hP hS hF dX4_firstHeard_29
  refine lv_iconst (v := (0 : Int32)) hx hb dX4_firstHeard_0 ic_0 ?_
  refine lv_istore_n (lv' := [(2, .int (0 : Int32)), (0, .ref (g.1 v0)), (1, .int v1)]) hx hb dX4_firstHeard_1 rfl hl (Nat.le_of_ble_eq_true rfl) rfl (fun ls hl => ?_)
  exact (hL2 FU) _ hF _ _ _ (lv_sub hl [1, 2, 0] rfl) hP hS
theorem xX4_firstHeard {p : Program} {l : Launch} {e : Env} {R : Room} {s : State} {m : MethodId} {args : Array Value} {below : List Frame} {meth : Method} {c : Code} {H : Heap} {locs : List Loc} {Q : State → Prop} {cc : ByteArray} {nL : Nat} {own : String} {g : GG} {pc index : Nat} {ls : Array Slot} {rest : List Value} {mc mm : Mem} (Z : ZZ p s m args c cc nL own g) (hP : va_P g.2.2.1 vwCl (wL g mc mm) H) (hS : va_S (AA g s.heap.size) s.heap H locs) {v0 : Nat} {v1 : Int32} (h0 : isO 4 v0) {q : Int32} (hq : F4_firstHeard v0 v1 mc = some q) (hlk : Cond.methodLink own index yX4_firstHeard ∈ wsL_law) (hsz : ls.size = nL) (hro : (rest.map fun v => v.category).sum ≤ 8) (hR : 0 + 1 ≤ R.frames ∧ 8 + (3 + 11) + 0 ≤ R.locals) (hdg : decode cc pc = .ok (.invokevirtual index, 3)) (kk : ∀ (H : Heap) (locs : List Loc), va_P g.2.2.1 vwCl (wL g mc mm) H → va_S (AA g s.heap.size) s.heap H locs → W p l e R s m args below meth c H locs 0 0 Q (F0 m (pc + 3) ls (.int q :: rest))) : W p l e R s m args below meth c H locs 0 0 Q (F0 m pc ls (.int v1 :: .ref (g.1 v0) :: rest)) :=
  x_VI Z hP hS (kX4_firstHeard l g v0 v1 h0 mc mm q hq) (isO_w h0) (ci := 4) (by decide) rfl rfl mf_X4_firstHeard mv_X4_firstHeard hlk rfl rfl hsz hro hR hdg kk
theorem dX4_timesHeard_0 : decode cX4_timesHeard 0 = .ok (.iconst 0, 1) := by decide +kernel
theorem dX4_timesHeard_1 : decode cX4_timesHeard 1 = .ok (.istore_n 1, 1) := by decide +kernel
theorem dX4_timesHeard_2 : decode cX4_timesHeard 2 = .ok (.iconst 0, 1) := by decide +kernel
theorem dX4_timesHeard_3 : decode cX4_timesHeard 3 = .ok (.istore_n 2, 1) := by decide +kernel
theorem dX4_timesHeard_4 : decode cX4_timesHeard 4 = .ok (.iload_n 2, 1) := by decide +kernel
theorem dX4_timesHeard_5 : decode cX4_timesHeard 5 = .ok (.bipush 40, 2) := by decide +kernel
theorem dX4_timesHeard_7 : decode cX4_timesHeard 7 = .ok (.if_icmp .ge 18, 3) := by decide +kernel
theorem dX4_timesHeard_10 : decode cX4_timesHeard 10 = .ok (.iload_n 1, 1) := by decide +kernel
theorem dX4_timesHeard_11 : decode cX4_timesHeard 11 = .ok (.aload_n 0, 1) := by decide +kernel
theorem dX4_timesHeard_12 : decode cX4_timesHeard 12 = .ok (.getfield 21, 3) := by decide +kernel
theorem dX4_timesHeard_15 : decode cX4_timesHeard 15 = .ok (.iload_n 2, 1) := by decide +kernel
theorem dX4_timesHeard_16 : decode cX4_timesHeard 16 = .ok (.iaload, 1) := by decide +kernel
theorem dX4_timesHeard_17 : decode cX4_timesHeard 17 = .ok (.iadd, 1) := by decide +kernel
theorem dX4_timesHeard_18 : decode cX4_timesHeard 18 = .ok (.istore_n 1, 1) := by decide +kernel
theorem dX4_timesHeard_19 : decode cX4_timesHeard 19 = .ok (.iinc 2 1, 3) := by decide +kernel
theorem dX4_timesHeard_22 : decode cX4_timesHeard 22 = .ok (.goto (-18), 3) := by decide +kernel
theorem dX4_timesHeard_25 : decode cX4_timesHeard 25 = .ok (.iload_n 1, 1) := by decide +kernel
theorem dX4_timesHeard_26 : decode cX4_timesHeard 26 = .ok (.ireturn, 1) := by decide +kernel
noncomputable def F4_timesHeard_p4 (kh : Int32 → Int32 → Option (Int32)) (v0 : Nat) (mc : Mem) (a1 : Int32) (a2 : Int32) : Option (Int32) :=
  (if (40 : Int32) ≤ a2 then some a1 else (ck a2 40 (kh (a1 + (mc (v0 + 4) a2.toNatClampNeg)) (a2 + (1 : Int32)))))
noncomputable def F4_timesHeard_h4 (v0 : Nat) (mc : Mem) : Nat → Int32 → Int32 → Option (Int32)
  | 0, _, _ => none
  | n + 1, a1, a2 => F4_timesHeard_p4 (F4_timesHeard_h4 v0 mc n) v0 mc a1 a2
noncomputable def F4_timesHeard (v0 : Nat) (mc : Mem) : Option (Int32) :=
  (F4_timesHeard_h4 v0 mc FU) (0 : Int32) (0 : Int32)
set_option maxHeartbeats 4000000 in
set_option maxRecDepth 100000 in
theorem kX4_timesHeard (l : Launch) (g : GG) (v0 : Nat) (h0 : isO 4 v0) (mc mm : Mem) (q : Int32) (hF : F4_timesHeard v0 mc = some q) : KI l yX4_timesHeard cX4_timesHeard 3 .int 0 0 g [.ref (g.1 v0)] mc mm q (mc, mm) := by
  intro sz
  refine x_start (Qc := fun z => QI g z q (mc, mm)) (by decide +kernel) (Nat.le_of_ble_eq_true rfl) ?_ sz
  intro p e s m args below meth c ls Z hr hlk hP hl
  have hx := Z.1.1
  have hb := Z.1.2.1
  have hown := Z.1.2.2.2.1
  have hts := Z.1.2.2.2.2
  have hS : va_S (AA g s.heap.size) s.heap s.heap [] := va_S.rf
  have hl : lv_has ls 3 [(0, .ref (g.1 v0))] := hl
  unfold F4_timesHeard at hF
  have hL4 : ∀ n : Nat, ∀ (a1 : Int32) (a2 : Int32), F4_timesHeard_h4 v0 mc n a1 a2 = some q → ∀ (H : Heap) (locs : List Loc) (ls : Array Slot), lv_has ls 3 [(0, .ref (g.1 v0)), (1, .int a1), (2, .int a2)] → va_P g.2.2.1 vwCl (wL g mc mm) H → va_S (AA g s.heap.size) s.heap H locs → W p l e { frames := 0, cells := 0, slots := 0, locals := 0 } s m args below meth c H locs 0 0 (MQ below (QI g s.heap.size q (mc, mm)) args s 0 0 (AA g s.heap.size)) (F0 m 4 ls []) := by
    intro n
    induction n with
    | zero => intro a1 a2 hF H locs ls hl hP hS; exact absurd hF (fun z => nomatch (show (none : Option _) = some q from z))
    | succ n ih =>
      generalize hkh : F4_timesHeard_h4 v0 mc n = kh at ih
      intro a1 a2 hF H locs ls hl hP hS
      have hF : F4_timesHeard_p4 (F4_timesHeard_h4 v0 mc n) v0 mc a1 a2 = some q := hF
      rw [hkh] at hF
      unfold F4_timesHeard_p4 at hF
      refine lv_iload_n hx hb dX4_timesHeard_4 rfl (lv_at hl 2 rfl) ?_
      refine lv_bipush (v := (40 : Int32)) hx hb dX4_timesHeard_5 bp_40 ?_
      refine lv_icmp_ge (tgt := 25) hx hb dX4_timesHeard_7 rfl (fun hc => ?_) (fun hc => ?_)
      · have hF := (if_pos hc).symm.trans hF
        refine lv_iload_n hx hb dX4_timesHeard_25 rfl (lv_at hl 1 rfl) ?_
        exact ret_I Z hr hlk hP hS hF dX4_timesHeard_26
      · have hF := (if_neg hc).symm.trans hF
        refine lv_iload_n hx hb dX4_timesHeard_10 rfl (lv_at hl 1 rfl) ?_
        refine lv_aload_n hx hb dX4_timesHeard_11 rfl (lv_at hl 0 rfl) ?_
        refine gf4_3 Z hP h0 wd_5_17 dX4_timesHeard_12 ?_
        refine lv_iload_n hx hb dX4_timesHeard_15 rfl (lv_at hl 2 rfl) ?_
        obtain ⟨hi2, hF⟩ := ck_ok hF
        refine ra_ld Z hP (ia_4_3 h0) hi2 dX4_timesHeard_16 ?_
        refine lv_iadd hx hb dX4_timesHeard_17 ?_
        refine lv_istore_n (lv' := [(1, .int (a1 + (mc (v0 + 4) a2.toNatClampNeg))), (0, .ref (g.1 v0)), (2, .int a2)]) hx hb dX4_timesHeard_18 rfl hl (Nat.le_of_ble_eq_true rfl) rfl (fun ls hl => ?_)
        refine lv_iinc (lv' := [(2, .int (a2 + (1 : Int32))), (1, .int (a1 + (mc (v0 + 4) a2.toNatClampNeg))), (0, .ref (g.1 v0))]) (v := (a2 + (1 : Int32))) hx hb dX4_timesHeard_19 hl (k := 2) rfl (io_1 _) (Nat.le_of_ble_eq_true rfl) rfl (fun ls hl => ?_)
        refine lv_goto (tgt := 4) hx hb dX4_timesHeard_22 rfl ?_
        exact ih _ _ hF _ _ _ (lv_sub hl [2, 1, 0] rfl) hP hS
  refine lv_iconst (v := (0 : Int32)) hx hb dX4_timesHeard_0 ic_0 ?_
  refine lv_istore_n (lv' := [(1, .int (0 : Int32)), (0, .ref (g.1 v0))]) hx hb dX4_timesHeard_1 rfl hl (Nat.le_of_ble_eq_true rfl) rfl (fun ls hl => ?_)
  refine lv_iconst (v := (0 : Int32)) hx hb dX4_timesHeard_2 ic_0 ?_
  refine lv_istore_n (lv' := [(2, .int (0 : Int32)), (1, .int (0 : Int32)), (0, .ref (g.1 v0))]) hx hb dX4_timesHeard_3 rfl hl (Nat.le_of_ble_eq_true rfl) rfl (fun ls hl => ?_)
  exact (hL4 FU) _ _ hF _ _ _ (lv_sub hl [2, 1, 0] rfl) hP hS
theorem xX4_timesHeard {p : Program} {l : Launch} {e : Env} {R : Room} {s : State} {m : MethodId} {args : Array Value} {below : List Frame} {meth : Method} {c : Code} {H : Heap} {locs : List Loc} {Q : State → Prop} {cc : ByteArray} {nL : Nat} {own : String} {g : GG} {pc index : Nat} {ls : Array Slot} {rest : List Value} {mc mm : Mem} (Z : ZZ p s m args c cc nL own g) (hP : va_P g.2.2.1 vwCl (wL g mc mm) H) (hS : va_S (AA g s.heap.size) s.heap H locs) {v0 : Nat} (h0 : isO 4 v0) {q : Int32} (hq : F4_timesHeard v0 mc = some q) (hlk : Cond.methodLink own index yX4_timesHeard ∈ wsL_law) (hsz : ls.size = nL) (hro : (rest.map fun v => v.category).sum ≤ 8) (hR : 0 + 1 ≤ R.frames ∧ 8 + (3 + 11) + 0 ≤ R.locals) (hdg : decode cc pc = .ok (.invokevirtual index, 3)) (kk : ∀ (H : Heap) (locs : List Loc), va_P g.2.2.1 vwCl (wL g mc mm) H → va_S (AA g s.heap.size) s.heap H locs → W p l e R s m args below meth c H locs 0 0 Q (F0 m (pc + 3) ls (.int q :: rest))) : W p l e R s m args below meth c H locs 0 0 Q (F0 m pc ls (.ref (g.1 v0) :: rest)) :=
  x_VI Z hP hS (kX4_timesHeard l g v0 h0 mc mm q hq) (isO_w h0) (ci := 4) (by decide) rfl rfl mf_X4_timesHeard mv_X4_timesHeard hlk rfl rfl hsz hro hR hdg kk
theorem dX4_isGone_0 : decode cX4_isGone 0 = .ok (.aload_n 0, 1) := by decide +kernel
theorem dX4_isGone_1 : decode cX4_isGone 1 = .ok (.getfield 18, 3) := by decide +kernel
theorem dX4_isGone_4 : decode cX4_isGone 4 = .ok (.bipush 39, 2) := by decide +kernel
theorem dX4_isGone_6 : decode cX4_isGone 6 = .ok (.iaload, 1) := by decide +kernel
theorem dX4_isGone_7 : decode cX4_isGone 7 = .ok (.ifCond .ne 7, 3) := by decide +kernel
theorem dX4_isGone_10 : decode cX4_isGone 10 = .ok (.iconst 1, 1) := by decide +kernel
theorem dX4_isGone_11 : decode cX4_isGone 11 = .ok (.goto 4, 3) := by decide +kernel
theorem dX4_isGone_14 : decode cX4_isGone 14 = .ok (.iconst 0, 1) := by decide +kernel
theorem dX4_isGone_15 : decode cX4_isGone 15 = .ok (.ireturn, 1) := by decide +kernel
noncomputable def F4_isGone (v0 : Nat) (mc : Mem) : Option (Int32) :=
  (if (mc (v0 + 3) (39 : Int32).toNatClampNeg) = (0 : Int32) then some (1 : Int32) else some (0 : Int32))
set_option maxHeartbeats 4000000 in
set_option maxRecDepth 100000 in
theorem kX4_isGone (l : Launch) (g : GG) (v0 : Nat) (h0 : isO 4 v0) (mc mm : Mem) (q : Int32) (hF : F4_isGone v0 mc = some q) : KI l yX4_isGone cX4_isGone 1 .boolean 0 0 g [.ref (g.1 v0)] mc mm q (mc, mm) := by
  intro sz
  refine x_start (Qc := fun z => QI g z q (mc, mm)) (by decide +kernel) (Nat.le_of_ble_eq_true rfl) ?_ sz
  intro p e s m args below meth c ls Z hr hlk hP hl
  have hx := Z.1.1
  have hb := Z.1.2.1
  have hown := Z.1.2.2.2.1
  have hts := Z.1.2.2.2.2
  have hS : va_S (AA g s.heap.size) s.heap s.heap [] := va_S.rf
  have hl : lv_has ls 1 [(0, .ref (g.1 v0))] := hl
  unfold F4_isGone at hF
  refine lv_aload_n hx hb dX4_isGone_0 rfl (lv_at hl 0 rfl) ?_
  refine gf4_2 Z hP h0 wd_5_16 dX4_isGone_1 ?_
  refine lv_bipush (v := (39 : Int32)) hx hb dX4_isGone_4 bp_39 ?_
  refine ra_ld Z hP (ia_4_2 h0) (inl (by decide)) dX4_isGone_6 ?_
  refine lv_if_ne (tgt := 14) hx hb dX4_isGone_7 rfl (fun hc => ?_) (fun hc => ?_)
  · have hF := (if_neg hc).symm.trans hF
    refine lv_iconst (v := (0 : Int32)) hx hb dX4_isGone_14 ic_0 ?_
    exact ret_Z Z hr hlk hP hS (Or.inl rfl) hF dX4_isGone_15
  · have hF := (if_pos hc).symm.trans hF
    refine lv_iconst (v := (1 : Int32)) hx hb dX4_isGone_10 ic_1 ?_
    refine lv_goto (tgt := 15) hx hb dX4_isGone_11 rfl ?_
    exact ret_Z Z hr hlk hP hS (Or.inr rfl) hF dX4_isGone_15
theorem xX4_isGone {p : Program} {l : Launch} {e : Env} {R : Room} {s : State} {m : MethodId} {args : Array Value} {below : List Frame} {meth : Method} {c : Code} {H : Heap} {locs : List Loc} {Q : State → Prop} {cc : ByteArray} {nL : Nat} {own : String} {g : GG} {pc index : Nat} {ls : Array Slot} {rest : List Value} {mc mm : Mem} (Z : ZZ p s m args c cc nL own g) (hP : va_P g.2.2.1 vwCl (wL g mc mm) H) (hS : va_S (AA g s.heap.size) s.heap H locs) {v0 : Nat} (h0 : isO 4 v0) {q : Int32} (hq : F4_isGone v0 mc = some q) (hlk : Cond.methodLink own index yX4_isGone ∈ wsL_law) (hsz : ls.size = nL) (hro : (rest.map fun v => v.category).sum ≤ 8) (hR : 0 + 1 ≤ R.frames ∧ 8 + (1 + 11) + 0 ≤ R.locals) (hdg : decode cc pc = .ok (.invokevirtual index, 3)) (kk : ∀ (H : Heap) (locs : List Loc), va_P g.2.2.1 vwCl (wL g mc mm) H → va_S (AA g s.heap.size) s.heap H locs → W p l e R s m args below meth c H locs 0 0 Q (F0 m (pc + 3) ls (.int q :: rest))) : W p l e R s m args below meth c H locs 0 0 Q (F0 m pc ls (.ref (g.1 v0) :: rest)) :=
  x_VI Z hP hS (kX4_isGone l g v0 h0 mc mm q hq) (isO_w h0) (ci := 4) (by decide) rfl rfl mf_X4_isGone mv_X4_isGone hlk rfl rfl hsz hro hR hdg kk
theorem dJ0_isLatin1_aae02_0 : decode cJ0_isLatin1_aae02 0 = .ok (.getstatic 38, 3) := by decide +kernel
theorem dJ0_isLatin1_aae02_3 : decode cJ0_isLatin1_aae02 3 = .ok (.ifCond .eq 14, 3) := by decide +kernel
theorem dJ0_isLatin1_aae02_6 : decode cJ0_isLatin1_aae02 6 = .ok (.aload_n 0, 1) := by decide +kernel
theorem dJ0_isLatin1_aae02_7 : decode cJ0_isLatin1_aae02 7 = .ok (.getfield 15, 3) := by decide +kernel
theorem dJ0_isLatin1_aae02_10 : decode cJ0_isLatin1_aae02 10 = .ok (.ifCond .ne 7, 3) := by decide +kernel
theorem dJ0_isLatin1_aae02_13 : decode cJ0_isLatin1_aae02 13 = .ok (.iconst 1, 1) := by decide +kernel
theorem dJ0_isLatin1_aae02_14 : decode cJ0_isLatin1_aae02 14 = .ok (.goto 4, 3) := by decide +kernel
theorem dJ0_isLatin1_aae02_17 : decode cJ0_isLatin1_aae02 17 = .ok (.iconst 0, 1) := by decide +kernel
theorem dJ0_isLatin1_aae02_18 : decode cJ0_isLatin1_aae02 18 = .ok (.ireturn, 1) := by decide +kernel
noncomputable def F0_isLatin1_aae02_b17 (v0 : Nat) : Option (Int32) :=
  some (0 : Int32)
noncomputable def F0_isLatin1_aae02 (v0 : Nat) : Option (Int32) :=
  (if (1 : Int32) = (0 : Int32) then (F0_isLatin1_aae02_b17 v0) else (if (0 : Int32) = (0 : Int32) then some (1 : Int32) else (F0_isLatin1_aae02_b17 v0)))
set_option maxHeartbeats 4000000 in
set_option maxRecDepth 100000 in
theorem kJ0_isLatin1_aae02 (l : Launch) (g : GG) (v0 : Nat) (h0 : v0 < 7) (mc mm : Mem) (q : Int32) (hF : F0_isLatin1_aae02 v0 = some q) : KI l yJ0_isLatin1_aae02 cJ0_isLatin1_aae02 1 .boolean 0 0 g [.ref (g.2.2.2.1 v0)] mc mm q (mc, mm) := by
  intro sz
  refine x_start (Qc := fun z => QI g z q (mc, mm)) (by decide +kernel) (Nat.le_of_ble_eq_true rfl) ?_ sz
  intro p e s m args below meth c ls Z hr hlk hP hl
  have hx := Z.1.1
  have hb := Z.1.2.1
  have hown := Z.1.2.2.2.1
  have hts := Z.1.2.2.2.2
  have hS : va_S (AA g s.heap.size) s.heap s.heap [] := va_S.rf
  have hl : lv_has ls 1 [(0, .ref (g.2.2.2.1 v0))] := hl
  unfold F0_isLatin1_aae02 at hF
  have hb17 : F0_isLatin1_aae02_b17 v0 = some q → ∀ (H : Heap) (locs : List Loc) (ls : Array Slot), lv_has ls 1 [] → va_P g.2.2.1 vwCl (wL g mc mm) H → va_S (AA g s.heap.size) s.heap H locs → W p l e { frames := 0, cells := 0, slots := 0, locals := 0 } s m args below meth c H locs 0 0 (MQ below (QI g s.heap.size q (mc, mm)) args s 0 0 (AA g s.heap.size)) (F0 m 17 ls []) := by
    intro hF H locs ls hl hP hS
    unfold F0_isLatin1_aae02_b17 at hF
    refine lv_iconst (v := (0 : Int32)) hx hb dJ0_isLatin1_aae02_17 ic_0 ?_
    exact ret_Z Z hr hlk hP hS (Or.inl rfl) hF dJ0_isLatin1_aae02_18
  refine rs_compact Z hS wd_8_22 dJ0_isLatin1_aae02_0 ?_
  refine lv_if_eq (tgt := 17) hx hb dJ0_isLatin1_aae02_3 rfl (fun hc => ?_) (fun hc => ?_)
  · have hF := (if_pos hc).symm.trans hF
    exact hb17  hF _ _ _ (lv_sub hl [] rfl) hP hS
  · have hF := (if_neg hc).symm.trans hF
    refine lv_aload_n hx hb dJ0_isLatin1_aae02_6 rfl (lv_at hl 0 rfl) ?_
    refine rs_coder Z hS h0 wd_8_23 dJ0_isLatin1_aae02_7 ?_
    refine lv_if_ne (tgt := 17) hx hb dJ0_isLatin1_aae02_10 rfl (fun hc => ?_) (fun hc => ?_)
    · have hF := (if_neg hc).symm.trans hF
      exact hb17  hF _ _ _ (lv_sub hl [] rfl) hP hS
    · have hF := (if_pos hc).symm.trans hF
      refine lv_iconst (v := (1 : Int32)) hx hb dJ0_isLatin1_aae02_13 ic_1 ?_
      refine lv_goto (tgt := 18) hx hb dJ0_isLatin1_aae02_14 rfl ?_
      exact ret_Z Z hr hlk hP hS (Or.inr rfl) hF dJ0_isLatin1_aae02_18
theorem xJ0_isLatin1_aae02 {p : Program} {l : Launch} {e : Env} {R : Room} {s : State} {m : MethodId} {args : Array Value} {below : List Frame} {meth : Method} {c : Code} {H : Heap} {locs : List Loc} {Q : State → Prop} {cc : ByteArray} {nL : Nat} {own : String} {g : GG} {pc index : Nat} {ls : Array Slot} {rest : List Value} {mc mm : Mem} (Z : ZZ p s m args c cc nL own g) (hP : va_P g.2.2.1 vwCl (wL g mc mm) H) (hS : va_S (AA g s.heap.size) s.heap H locs) {v0 : Nat} (h0 : v0 < 7) {q : Int32} (hq : F0_isLatin1_aae02 v0 = some q) (hlk : Cond.methodLink own index yJ0_isLatin1_aae02 ∈ wsL_law) (hsz : ls.size = nL) (hro : (rest.map fun v => v.category).sum ≤ 8) (hR : 0 + 1 ≤ R.frames ∧ 8 + (1 + 11) + 0 ≤ R.locals) (hdg : decode cc pc = .ok (.invokevirtual index, 3)) (kk : ∀ (H : Heap) (locs : List Loc), va_P g.2.2.1 vwCl (wL g mc mm) H → va_S (AA g s.heap.size) s.heap H locs → W p l e R s m args below meth c H locs 0 0 Q (F0 m (pc + 3) ls (.int q :: rest))) : W p l e R s m args below meth c H locs 0 0 Q (F0 m pc ls (.ref (g.2.2.2.1 v0) :: rest)) :=
  x_QI Z hP hS (kJ0_isLatin1_aae02 l g v0 h0 mc mm q hq) h0 rfl mf_J0_isLatin1_aae02 mv_J0_isLatin1_aae02 hlk rfl rfl hsz hro hR hdg kk
theorem dJ0_coder_7d493_0 : decode cJ0_coder_7d493 0 = .ok (.getstatic 38, 3) := by decide +kernel
theorem dJ0_coder_7d493_3 : decode cJ0_coder_7d493 3 = .ok (.ifCond .eq 10, 3) := by decide +kernel
theorem dJ0_coder_7d493_6 : decode cJ0_coder_7d493 6 = .ok (.aload_n 0, 1) := by decide +kernel
theorem dJ0_coder_7d493_7 : decode cJ0_coder_7d493 7 = .ok (.getfield 15, 3) := by decide +kernel
theorem dJ0_coder_7d493_10 : decode cJ0_coder_7d493 10 = .ok (.goto 4, 3) := by decide +kernel
theorem dJ0_coder_7d493_13 : decode cJ0_coder_7d493 13 = .ok (.iconst 1, 1) := by decide +kernel
theorem dJ0_coder_7d493_14 : decode cJ0_coder_7d493 14 = .ok (.ireturn, 1) := by decide +kernel
noncomputable def F0_coder_7d493 (v0 : Nat) : Option (Int32) :=
  (if (1 : Int32) = (0 : Int32) then some (1 : Int32) else some (0 : Int32))
set_option maxHeartbeats 4000000 in
set_option maxRecDepth 100000 in
theorem kJ0_coder_7d493 (l : Launch) (g : GG) (v0 : Nat) (h0 : v0 < 7) (mc mm : Mem) (q : Int32) (hF : F0_coder_7d493 v0 = some q) : KI l yJ0_coder_7d493 cJ0_coder_7d493 1 .byte 0 0 g [.ref (g.2.2.2.1 v0)] mc mm q (mc, mm) := by
  intro sz
  refine x_start (Qc := fun z => QI g z q (mc, mm)) (by decide +kernel) (Nat.le_of_ble_eq_true rfl) ?_ sz
  intro p e s m args below meth c ls Z hr hlk hP hl
  have hx := Z.1.1
  have hb := Z.1.2.1
  have hown := Z.1.2.2.2.1
  have hts := Z.1.2.2.2.2
  have hS : va_S (AA g s.heap.size) s.heap s.heap [] := va_S.rf
  have hl : lv_has ls 1 [(0, .ref (g.2.2.2.1 v0))] := hl
  unfold F0_coder_7d493 at hF
  refine rs_compact Z hS wd_8_22 dJ0_coder_7d493_0 ?_
  refine lv_if_eq (tgt := 13) hx hb dJ0_coder_7d493_3 rfl (fun hc => ?_) (fun hc => ?_)
  · have hF := (if_pos hc).symm.trans hF
    refine lv_iconst (v := (1 : Int32)) hx hb dJ0_coder_7d493_13 ic_1 ?_
    exact ret_B Z hr hlk hP hS (Or.inr rfl) hF dJ0_coder_7d493_14
  · have hF := (if_neg hc).symm.trans hF
    refine lv_aload_n hx hb dJ0_coder_7d493_6 rfl (lv_at hl 0 rfl) ?_
    refine rs_coder Z hS h0 wd_8_23 dJ0_coder_7d493_7 ?_
    refine lv_goto (tgt := 14) hx hb dJ0_coder_7d493_10 rfl ?_
    exact ret_B Z hr hlk hP hS (Or.inl rfl) hF dJ0_coder_7d493_14
theorem xJ0_coder_7d493 {p : Program} {l : Launch} {e : Env} {R : Room} {s : State} {m : MethodId} {args : Array Value} {below : List Frame} {meth : Method} {c : Code} {H : Heap} {locs : List Loc} {Q : State → Prop} {cc : ByteArray} {nL : Nat} {own : String} {g : GG} {pc index : Nat} {ls : Array Slot} {rest : List Value} {mc mm : Mem} (Z : ZZ p s m args c cc nL own g) (hP : va_P g.2.2.1 vwCl (wL g mc mm) H) (hS : va_S (AA g s.heap.size) s.heap H locs) {v0 : Nat} (h0 : v0 < 7) {q : Int32} (hq : F0_coder_7d493 v0 = some q) (hlk : Cond.methodLink own index yJ0_coder_7d493 ∈ wsL_law) (hsz : ls.size = nL) (hro : (rest.map fun v => v.category).sum ≤ 8) (hR : 0 + 1 ≤ R.frames ∧ 8 + (1 + 11) + 0 ≤ R.locals) (hdg : decode cc pc = .ok (.invokevirtual index, 3)) (kk : ∀ (H : Heap) (locs : List Loc), va_P g.2.2.1 vwCl (wL g mc mm) H → va_S (AA g s.heap.size) s.heap H locs → W p l e R s m args below meth c H locs 0 0 Q (F0 m (pc + 3) ls (.int q :: rest))) : W p l e R s m args below meth c H locs 0 0 Q (F0 m pc ls (.ref (g.2.2.2.1 v0) :: rest)) :=
  x_QI Z hP hS (kJ0_coder_7d493 l g v0 h0 mc mm q hq) h0 rfl mf_J0_coder_7d493 mv_J0_coder_7d493 hlk rfl rfl hsz hro hR hdg kk
theorem dJ0_length_8abf5_0 : decode cJ0_length_8abf5 0 = .ok (.aload_n 0, 1) := by decide +kernel
theorem dJ0_length_8abf5_1 : decode cJ0_length_8abf5 1 = .ok (.getfield 9, 3) := by decide +kernel
theorem dJ0_length_8abf5_4 : decode cJ0_length_8abf5 4 = .ok (.arraylength, 1) := by decide +kernel
theorem dJ0_length_8abf5_5 : decode cJ0_length_8abf5 5 = .ok (.aload_n 0, 1) := by decide +kernel
theorem dJ0_length_8abf5_6 : decode cJ0_length_8abf5 6 = .ok (.invokevirtual 335, 3) := by decide +kernel
theorem dJ0_length_8abf5_9 : decode cJ0_length_8abf5 9 = .ok (.ishr, 1) := by decide +kernel
theorem dJ0_length_8abf5_10 : decode cJ0_length_8abf5 10 = .ok (.ireturn, 1) := by decide +kernel
noncomputable def F0_length_8abf5 (v0 : Nat) : Option (Int32) :=
  ((F0_coder_7d493 v0).bind (fun q2 => (some ((Int32.ofNat (lenS.getD v0 0)) >>> (q2 &&& (31 : Int32))))))
set_option maxHeartbeats 4000000 in
set_option maxRecDepth 100000 in
theorem kJ0_length_8abf5 (l : Launch) (g : GG) (v0 : Nat) (h0 : v0 < 7) (mc mm : Mem) (q : Int32) (hF : F0_length_8abf5 v0 = some q) : KI l yJ0_length_8abf5 cJ0_length_8abf5 1 .int 1 20 g [.ref (g.2.2.2.1 v0)] mc mm q (mc, mm) := by
  intro sz
  refine x_start (Qc := fun z => QI g z q (mc, mm)) (by decide +kernel) (Nat.le_of_ble_eq_true rfl) ?_ sz
  intro p e s m args below meth c ls Z hr hlk hP hl
  have hx := Z.1.1
  have hb := Z.1.2.1
  have hown := Z.1.2.2.2.1
  have hts := Z.1.2.2.2.2
  have hS : va_S (AA g s.heap.size) s.heap s.heap [] := va_S.rf
  have hl : lv_has ls 1 [(0, .ref (g.2.2.2.1 v0))] := hl
  unfold F0_length_8abf5 at hF
  refine lv_aload_n hx hb dJ0_length_8abf5_0 rfl (lv_at hl 0 rfl) ?_
  refine rs_value Z hS h0 wd_8_17 dJ0_length_8abf5_1 ?_
  refine rs_len Z hS h0 dJ0_length_8abf5_4 ?_
  refine lv_aload_n hx hb dJ0_length_8abf5_5 rfl (lv_at hl 0 rfl) ?_
  obtain ⟨q2, hq2, hF⟩ := bd_ok hF
  refine xJ0_coder_7d493 Z hP hS h0 hq2 wd_9_4 hl.1 (Nat.le_of_ble_eq_true rfl) ⟨Nat.le_of_ble_eq_true rfl, Nat.le_of_ble_eq_true rfl⟩ dJ0_length_8abf5_6 (fun H locs hP hS => ?_)
  refine lv_ishr hx hb dJ0_length_8abf5_9 ?_
  exact ret_I Z hr hlk hP hS hF dJ0_length_8abf5_10
theorem xJ0_length_8abf5 {p : Program} {l : Launch} {e : Env} {R : Room} {s : State} {m : MethodId} {args : Array Value} {below : List Frame} {meth : Method} {c : Code} {H : Heap} {locs : List Loc} {Q : State → Prop} {cc : ByteArray} {nL : Nat} {own : String} {g : GG} {pc index : Nat} {ls : Array Slot} {rest : List Value} {mc mm : Mem} (Z : ZZ p s m args c cc nL own g) (hP : va_P g.2.2.1 vwCl (wL g mc mm) H) (hS : va_S (AA g s.heap.size) s.heap H locs) {v0 : Nat} (h0 : v0 < 7) {q : Int32} (hq : F0_length_8abf5 v0 = some q) (hlk : Cond.methodLink own index yJ0_length_8abf5 ∈ wsL_law) (hsz : ls.size = nL) (hro : (rest.map fun v => v.category).sum ≤ 8) (hR : 1 + 1 ≤ R.frames ∧ 8 + (1 + 11) + 20 ≤ R.locals) (hdg : decode cc pc = .ok (.invokevirtual index, 3)) (kk : ∀ (H : Heap) (locs : List Loc), va_P g.2.2.1 vwCl (wL g mc mm) H → va_S (AA g s.heap.size) s.heap H locs → W p l e R s m args below meth c H locs 0 0 Q (F0 m (pc + 3) ls (.int q :: rest))) : W p l e R s m args below meth c H locs 0 0 Q (F0 m pc ls (.ref (g.2.2.2.1 v0) :: rest)) :=
  x_QI Z hP hS (kJ0_length_8abf5 l g v0 h0 mc mm q hq) h0 rfl mf_J0_length_8abf5 mv_J0_length_8abf5 hlk rfl rfl hsz hro hR hdg kk

theorem dX10_readsSayings_0 : decode cX10_readsSayings 0 = .ok (.aload_n 0, 1) := by decide +kernel
theorem dX10_readsSayings_1 : decode cX10_readsSayings 1 = .ok (.iconst 0, 1) := by decide +kernel
theorem dX10_readsSayings_2 : decode cX10_readsSayings 2 = .ok (.putfield 134, 3) := by decide +kernel
theorem dX10_readsSayings_5 : decode cX10_readsSayings 5 = .ok (.aload_n 0, 1) := by decide +kernel
theorem dX10_readsSayings_6 : decode cX10_readsSayings 6 = .ok (.getfield 25, 3) := by decide +kernel
theorem dX10_readsSayings_9 : decode cX10_readsSayings 9 = .ok (.iconst 1, 1) := by decide +kernel
theorem dX10_readsSayings_10 : decode cX10_readsSayings 10 = .ok (.iaload, 1) := by decide +kernel
theorem dX10_readsSayings_11 : decode cX10_readsSayings 11 = .ok (.istore_n 1, 1) := by decide +kernel
theorem dX10_readsSayings_12 : decode cX10_readsSayings 12 = .ok (.iconst 0, 1) := by decide +kernel
theorem dX10_readsSayings_13 : decode cX10_readsSayings 13 = .ok (.istore_n 2, 1) := by decide +kernel
theorem dX10_readsSayings_14 : decode cX10_readsSayings 14 = .ok (.iconst 0, 1) := by decide +kernel
theorem dX10_readsSayings_15 : decode cX10_readsSayings 15 = .ok (.istore_n 3, 1) := by decide +kernel
theorem dX10_readsSayings_16 : decode cX10_readsSayings 16 = .ok (.iload_n 3, 1) := by decide +kernel
theorem dX10_readsSayings_17 : decode cX10_readsSayings 17 = .ok (.iload_n 1, 1) := by decide +kernel
theorem dX10_readsSayings_18 : decode cX10_readsSayings 18 = .ok (.if_icmp .ge 156, 3) := by decide +kernel
theorem dX10_readsSayings_21 : decode cX10_readsSayings 21 = .ok (.aload_n 0, 1) := by decide +kernel
theorem dX10_readsSayings_22 : decode cX10_readsSayings 22 = .ok (.getfield 22, 3) := by decide +kernel
theorem dX10_readsSayings_25 : decode cX10_readsSayings 25 = .ok (.bipush 64, 2) := by decide +kernel
theorem dX10_readsSayings_27 : decode cX10_readsSayings 27 = .ok (.iload_n 3, 1) := by decide +kernel
theorem dX10_readsSayings_28 : decode cX10_readsSayings 28 = .ok (.iadd, 1) := by decide +kernel
theorem dX10_readsSayings_29 : decode cX10_readsSayings 29 = .ok (.iaload, 1) := by decide +kernel
theorem dX10_readsSayings_30 : decode cX10_readsSayings 30 = .ok (.istore 4, 2) := by decide +kernel
theorem dX10_readsSayings_32 : decode cX10_readsSayings 32 = .ok (.iload_n 2, 1) := by decide +kernel
theorem dX10_readsSayings_33 : decode cX10_readsSayings 33 = .ok (.iconst 3, 1) := by decide +kernel
theorem dX10_readsSayings_34 : decode cX10_readsSayings 34 = .ok (.if_icmp .le 14, 3) := by decide +kernel
theorem dX10_readsSayings_37 : decode cX10_readsSayings 37 = .ok (.iload 4, 2) := by decide +kernel
theorem dX10_readsSayings_39 : decode cX10_readsSayings 39 = .ok (.bipush 59, 2) := by decide +kernel
theorem dX10_readsSayings_41 : decode cX10_readsSayings 41 = .ok (.if_icmp .ne 7, 3) := by decide +kernel
theorem dX10_readsSayings_44 : decode cX10_readsSayings 44 = .ok (.iconst 1, 1) := by decide +kernel
theorem dX10_readsSayings_45 : decode cX10_readsSayings 45 = .ok (.goto 4, 3) := by decide +kernel
theorem dX10_readsSayings_48 : decode cX10_readsSayings 48 = .ok (.iconst 0, 1) := by decide +kernel
theorem dX10_readsSayings_49 : decode cX10_readsSayings 49 = .ok (.istore 5, 2) := by decide +kernel
theorem dX10_readsSayings_51 : decode cX10_readsSayings 51 = .ok (.aload_n 0, 1) := by decide +kernel
theorem dX10_readsSayings_52 : decode cX10_readsSayings 52 = .ok (.getfield 134, 3) := by decide +kernel
theorem dX10_readsSayings_55 : decode cX10_readsSayings 55 = .ok (.bipush 8, 2) := by decide +kernel
theorem dX10_readsSayings_57 : decode cX10_readsSayings 57 = .ok (.if_icmp .ge 12, 3) := by decide +kernel
theorem dX10_readsSayings_60 : decode cX10_readsSayings 60 = .ok (.iload_n 2, 1) := by decide +kernel
theorem dX10_readsSayings_61 : decode cX10_readsSayings 61 = .ok (.iload 4, 2) := by decide +kernel
theorem dX10_readsSayings_63 : decode cX10_readsSayings 63 = .ok (.invokestatic 137, 3) := by decide +kernel
theorem dX10_readsSayings_66 : decode cX10_readsSayings 66 = .ok (.goto 5, 3) := by decide +kernel
theorem dX10_readsSayings_69 : decode cX10_readsSayings 69 = .ok (.bipush (-9), 2) := by decide +kernel
theorem dX10_readsSayings_71 : decode cX10_readsSayings 71 = .ok (.istore 6, 2) := by decide +kernel
theorem dX10_readsSayings_73 : decode cX10_readsSayings 73 = .ok (.iload 6, 2) := by decide +kernel
theorem dX10_readsSayings_75 : decode cX10_readsSayings 75 = .ok (.bipush (-9), 2) := by decide +kernel
theorem dX10_readsSayings_77 : decode cX10_readsSayings 77 = .ok (.if_icmp .ne 15, 3) := by decide +kernel
theorem dX10_readsSayings_80 : decode cX10_readsSayings 80 = .ok (.iload 5, 2) := by decide +kernel
theorem dX10_readsSayings_82 : decode cX10_readsSayings 82 = .ok (.ifCond .ne 10, 3) := by decide +kernel
theorem dX10_readsSayings_85 : decode cX10_readsSayings 85 = .ok (.aload_n 0, 1) := by decide +kernel
theorem dX10_readsSayings_86 : decode cX10_readsSayings 86 = .ok (.iconst 0, 1) := by decide +kernel
theorem dX10_readsSayings_87 : decode cX10_readsSayings 87 = .ok (.putfield 134, 3) := by decide +kernel
theorem dX10_readsSayings_90 : decode cX10_readsSayings 90 = .ok (.iload_n 3, 1) := by decide +kernel
theorem dX10_readsSayings_91 : decode cX10_readsSayings 91 = .ok (.ireturn, 1) := by decide +kernel
theorem dX10_readsSayings_92 : decode cX10_readsSayings 92 = .ok (.iload 5, 2) := by decide +kernel
theorem dX10_readsSayings_94 : decode cX10_readsSayings 94 = .ok (.ifCond .eq 18, 3) := by decide +kernel
theorem dX10_readsSayings_97 : decode cX10_readsSayings 97 = .ok (.aload_n 0, 1) := by decide +kernel
theorem dX10_readsSayings_98 : decode cX10_readsSayings 98 = .ok (.dup, 1) := by decide +kernel
theorem dX10_readsSayings_99 : decode cX10_readsSayings 99 = .ok (.getfield 134, 3) := by decide +kernel
theorem dX10_readsSayings_102 : decode cX10_readsSayings 102 = .ok (.iconst 1, 1) := by decide +kernel
theorem dX10_readsSayings_103 : decode cX10_readsSayings 103 = .ok (.iadd, 1) := by decide +kernel
theorem dX10_readsSayings_104 : decode cX10_readsSayings 104 = .ok (.putfield 134, 3) := by decide +kernel
theorem dX10_readsSayings_107 : decode cX10_readsSayings 107 = .ok (.iconst 0, 1) := by decide +kernel
theorem dX10_readsSayings_108 : decode cX10_readsSayings 108 = .ok (.istore_n 2, 1) := by decide +kernel
theorem dX10_readsSayings_109 : decode cX10_readsSayings 109 = .ok (.goto 59, 3) := by decide +kernel
theorem dX10_readsSayings_112 : decode cX10_readsSayings 112 = .ok (.aload_n 0, 1) := by decide +kernel
theorem dX10_readsSayings_113 : decode cX10_readsSayings 113 = .ok (.getfield 31, 3) := by decide +kernel
theorem dX10_readsSayings_116 : decode cX10_readsSayings 116 = .ok (.bipush 8, 2) := by decide +kernel
theorem dX10_readsSayings_118 : decode cX10_readsSayings 118 = .ok (.aload_n 0, 1) := by decide +kernel
theorem dX10_readsSayings_119 : decode cX10_readsSayings 119 = .ok (.getfield 134, 3) := by decide +kernel
theorem dX10_readsSayings_122 : decode cX10_readsSayings 122 = .ok (.imul, 1) := by decide +kernel
theorem dX10_readsSayings_123 : decode cX10_readsSayings 123 = .ok (.iload_n 2, 1) := by decide +kernel
theorem dX10_readsSayings_124 : decode cX10_readsSayings 124 = .ok (.iconst 3, 1) := by decide +kernel
theorem dX10_readsSayings_125 : decode cX10_readsSayings 125 = .ok (.if_icmp .ge 7, 3) := by decide +kernel
theorem dX10_readsSayings_128 : decode cX10_readsSayings 128 = .ok (.iload_n 2, 1) := by decide +kernel
theorem dX10_readsSayings_129 : decode cX10_readsSayings 129 = .ok (.goto 6, 3) := by decide +kernel
theorem dX10_readsSayings_132 : decode cX10_readsSayings 132 = .ok (.iload_n 2, 1) := by decide +kernel
theorem dX10_readsSayings_133 : decode cX10_readsSayings 133 = .ok (.iconst 1, 1) := by decide +kernel
theorem dX10_readsSayings_134 : decode cX10_readsSayings 134 = .ok (.iadd, 1) := by decide +kernel
theorem dX10_readsSayings_135 : decode cX10_readsSayings 135 = .ok (.iadd, 1) := by decide +kernel
theorem dX10_readsSayings_136 : decode cX10_readsSayings 136 = .ok (.iload 6, 2) := by decide +kernel
theorem dX10_readsSayings_138 : decode cX10_readsSayings 138 = .ok (.iastore, 1) := by decide +kernel
theorem dX10_readsSayings_139 : decode cX10_readsSayings 139 = .ok (.aload_n 0, 1) := by decide +kernel
theorem dX10_readsSayings_140 : decode cX10_readsSayings 140 = .ok (.getfield 31, 3) := by decide +kernel
theorem dX10_readsSayings_143 : decode cX10_readsSayings 143 = .ok (.bipush 8, 2) := by decide +kernel
theorem dX10_readsSayings_145 : decode cX10_readsSayings 145 = .ok (.aload_n 0, 1) := by decide +kernel
theorem dX10_readsSayings_146 : decode cX10_readsSayings 146 = .ok (.getfield 134, 3) := by decide +kernel
theorem dX10_readsSayings_149 : decode cX10_readsSayings 149 = .ok (.imul, 1) := by decide +kernel
theorem dX10_readsSayings_150 : decode cX10_readsSayings 150 = .ok (.iconst 3, 1) := by decide +kernel
theorem dX10_readsSayings_151 : decode cX10_readsSayings 151 = .ok (.iadd, 1) := by decide +kernel
theorem dX10_readsSayings_152 : decode cX10_readsSayings 152 = .ok (.iload_n 2, 1) := by decide +kernel
theorem dX10_readsSayings_153 : decode cX10_readsSayings 153 = .ok (.iconst 3, 1) := by decide +kernel
theorem dX10_readsSayings_154 : decode cX10_readsSayings 154 = .ok (.if_icmp .ge 7, 3) := by decide +kernel
theorem dX10_readsSayings_157 : decode cX10_readsSayings 157 = .ok (.iconst 0, 1) := by decide +kernel
theorem dX10_readsSayings_158 : decode cX10_readsSayings 158 = .ok (.goto 6, 3) := by decide +kernel
theorem dX10_readsSayings_161 : decode cX10_readsSayings 161 = .ok (.iload_n 2, 1) := by decide +kernel
theorem dX10_readsSayings_162 : decode cX10_readsSayings 162 = .ok (.iconst 2, 1) := by decide +kernel
theorem dX10_readsSayings_163 : decode cX10_readsSayings 163 = .ok (.isub, 1) := by decide +kernel
theorem dX10_readsSayings_164 : decode cX10_readsSayings 164 = .ok (.iastore, 1) := by decide +kernel
theorem dX10_readsSayings_165 : decode cX10_readsSayings 165 = .ok (.iinc 2 1, 3) := by decide +kernel
theorem dX10_readsSayings_168 : decode cX10_readsSayings 168 = .ok (.iinc 3 1, 3) := by decide +kernel
theorem dX10_readsSayings_171 : decode cX10_readsSayings 171 = .ok (.goto (-155), 3) := by decide +kernel
theorem dX10_readsSayings_174 : decode cX10_readsSayings 174 = .ok (.iload_n 1, 1) := by decide +kernel
theorem dX10_readsSayings_175 : decode cX10_readsSayings 175 = .ok (.ifCond .le 15, 3) := by decide +kernel
theorem dX10_readsSayings_178 : decode cX10_readsSayings 178 = .ok (.iload_n 2, 1) := by decide +kernel
theorem dX10_readsSayings_179 : decode cX10_readsSayings 179 = .ok (.iconst 4, 1) := by decide +kernel
theorem dX10_readsSayings_180 : decode cX10_readsSayings 180 = .ok (.if_icmp .ge 10, 3) := by decide +kernel
theorem dX10_readsSayings_183 : decode cX10_readsSayings 183 = .ok (.aload_n 0, 1) := by decide +kernel
theorem dX10_readsSayings_184 : decode cX10_readsSayings 184 = .ok (.iconst 0, 1) := by decide +kernel
theorem dX10_readsSayings_185 : decode cX10_readsSayings 185 = .ok (.putfield 134, 3) := by decide +kernel
theorem dX10_readsSayings_188 : decode cX10_readsSayings 188 = .ok (.iload_n 1, 1) := by decide +kernel
theorem dX10_readsSayings_189 : decode cX10_readsSayings 189 = .ok (.ireturn, 1) := by decide +kernel
theorem dX10_readsSayings_190 : decode cX10_readsSayings 190 = .ok (.aload_n 0, 1) := by decide +kernel
theorem dX10_readsSayings_191 : decode cX10_readsSayings 191 = .ok (.dup, 1) := by decide +kernel
theorem dX10_readsSayings_192 : decode cX10_readsSayings 192 = .ok (.getfield 134, 3) := by decide +kernel
theorem dX10_readsSayings_195 : decode cX10_readsSayings 195 = .ok (.iload_n 1, 1) := by decide +kernel
theorem dX10_readsSayings_196 : decode cX10_readsSayings 196 = .ok (.ifCond .le 7, 3) := by decide +kernel
theorem dX10_readsSayings_199 : decode cX10_readsSayings 199 = .ok (.iconst 1, 1) := by decide +kernel
theorem dX10_readsSayings_200 : decode cX10_readsSayings 200 = .ok (.goto 4, 3) := by decide +kernel
theorem dX10_readsSayings_203 : decode cX10_readsSayings 203 = .ok (.iconst 0, 1) := by decide +kernel
theorem dX10_readsSayings_204 : decode cX10_readsSayings 204 = .ok (.iadd, 1) := by decide +kernel
theorem dX10_readsSayings_205 : decode cX10_readsSayings 205 = .ok (.putfield 134, 3) := by decide +kernel
theorem dX10_readsSayings_208 : decode cX10_readsSayings 208 = .ok (.iconst (-1), 1) := by decide +kernel
theorem dX10_readsSayings_209 : decode cX10_readsSayings 209 = .ok (.ireturn, 1) := by decide +kernel
noncomputable def F10_readsSayings_b204 (s1 : Int32) (s2 : Int32) (M : Mem) : Option (Int32 × Mem) :=
  some ((-1 : Int32), (mset M 0 9 (s1 + s2)))
noncomputable def F10_readsSayings_b190 (a1 : Int32) (M : Mem) : Option (Int32 × Mem) :=
  (if a1 ≤ (0 : Int32) then F10_readsSayings_b204 (M 0 9) (0 : Int32) M else F10_readsSayings_b204 (M 0 9) (1 : Int32) M)
noncomputable def F10_readsSayings_b174 (a1 : Int32) (a2 : Int32) (M : Mem) : Option (Int32 × Mem) :=
  (if a1 ≤ (0 : Int32) then F10_readsSayings_b190 a1 M else (if (4 : Int32) ≤ a2 then F10_readsSayings_b190 a1 M else some (a1, (mset M 0 9 (0 : Int32)))))
noncomputable def F10_readsSayings_b85 (a3 : Int32) (M : Mem) : Option (Int32 × Mem) :=
  some (a3, (mset M 0 9 (0 : Int32)))
noncomputable def F10_readsSayings_b168 (kh : Int32 → Int32 → Int32 → Mem → Option (Int32 × Mem)) (kx85 : Int32 → Mem → Option (Int32 × Mem)) (kx174 : Int32 → Int32 → Mem → Option (Int32 × Mem)) (a1 : Int32) (a2 : Int32) (a3 : Int32) (M : Mem) : Option (Int32 × Mem) :=
  kh a1 a2 (a3 + (1 : Int32)) M
noncomputable def F10_readsSayings_b164 (kh : Int32 → Int32 → Int32 → Mem → Option (Int32 × Mem)) (kx85 : Int32 → Mem → Option (Int32 × Mem)) (kx174 : Int32 → Int32 → Mem → Option (Int32 × Mem)) (a1 : Int32) (a2 : Int32) (a3 : Int32) (s1 : Int32) (s2 : Int32) (M : Mem) : Option (Int32 × Mem) :=
  (ck s1 64 ((F10_readsSayings_b168 kh kx85 kx174) a1 (a2 + (1 : Int32)) a3 (mset M 8 s1.toNatClampNeg s2)))
noncomputable def F10_readsSayings_b135 (kh : Int32 → Int32 → Int32 → Mem → Option (Int32 × Mem)) (kx85 : Int32 → Mem → Option (Int32 × Mem)) (kx174 : Int32 → Int32 → Mem → Option (Int32 × Mem)) (a1 : Int32) (a2 : Int32) (a3 : Int32) (a6 : Int32) (s1 : Int32) (s2 : Int32) (M : Mem) : Option (Int32 × Mem) :=
  (ck (s1 + s2) 64 (lt (mset M 8 (s1 + s2).toNatClampNeg a6) (fun M9 => (if (3 : Int32) ≤ a2 then (F10_readsSayings_b164 kh kx85 kx174) a1 a2 a3 (((8 : Int32) * (M9 0 9)) + (3 : Int32)) (a2 - (2 : Int32)) M9 else (F10_readsSayings_b164 kh kx85 kx174) a1 a2 a3 (((8 : Int32) * (M9 0 9)) + (3 : Int32)) (0 : Int32) M9))))
noncomputable def F10_readsSayings_b92 (kh : Int32 → Int32 → Int32 → Mem → Option (Int32 × Mem)) (kx85 : Int32 → Mem → Option (Int32 × Mem)) (kx174 : Int32 → Int32 → Mem → Option (Int32 × Mem)) (a1 : Int32) (a2 : Int32) (a3 : Int32) (a5 : Int32) (a6 : Int32) (M : Mem) : Option (Int32 × Mem) :=
  (if a5 = (0 : Int32) then (if (3 : Int32) ≤ a2 then (F10_readsSayings_b135 kh kx85 kx174) a1 a2 a3 a6 ((8 : Int32) * (M 0 9)) (a2 + (1 : Int32)) M else (F10_readsSayings_b135 kh kx85 kx174) a1 a2 a3 a6 ((8 : Int32) * (M 0 9)) a2 M) else (F10_readsSayings_b168 kh kx85 kx174) a1 (0 : Int32) a3 (mset M 0 9 ((M 0 9) + (1 : Int32))))
noncomputable def F10_readsSayings_b71 (kh : Int32 → Int32 → Int32 → Mem → Option (Int32 × Mem)) (kx85 : Int32 → Mem → Option (Int32 × Mem)) (kx174 : Int32 → Int32 → Mem → Option (Int32 × Mem)) (a1 : Int32) (a2 : Int32) (a3 : Int32) (a5 : Int32) (s0 : Int32) (M : Mem) : Option (Int32 × Mem) :=
  (if s0 = (-9 : Int32) then (if a5 = (0 : Int32) then kx85 a3 M else (F10_readsSayings_b92 kh kx85 kx174) a1 a2 a3 a5 s0 M) else (F10_readsSayings_b92 kh kx85 kx174) a1 a2 a3 a5 s0 M)
noncomputable def F10_readsSayings_b49 (kh : Int32 → Int32 → Int32 → Mem → Option (Int32 × Mem)) (kx85 : Int32 → Mem → Option (Int32 × Mem)) (kx174 : Int32 → Int32 → Mem → Option (Int32 × Mem)) (a1 : Int32) (a2 : Int32) (a3 : Int32) (a4 : Int32) (s0 : Int32) (M : Mem) : Option (Int32 × Mem) :=
  (if (8 : Int32) ≤ (M 0 9) then (F10_readsSayings_b71 kh kx85 kx174) a1 a2 a3 s0 (-9 : Int32) M else ((F10_sayingOf a2 a4).bind (fun q10 => ((F10_readsSayings_b71 kh kx85 kx174) a1 a2 a3 s0 q10 M))))
noncomputable def F10_readsSayings_b48 (kh : Int32 → Int32 → Int32 → Mem → Option (Int32 × Mem)) (kx85 : Int32 → Mem → Option (Int32 × Mem)) (kx174 : Int32 → Int32 → Mem → Option (Int32 × Mem)) (a1 : Int32) (a2 : Int32) (a3 : Int32) (a4 : Int32) (M : Mem) : Option (Int32 × Mem) :=
  (F10_readsSayings_b49 kh kx85 kx174) a1 a2 a3 a4 (0 : Int32) M
noncomputable def F10_readsSayings_p16 (kh : Int32 → Int32 → Int32 → Mem → Option (Int32 × Mem)) (kx85 : Int32 → Mem → Option (Int32 × Mem)) (kx174 : Int32 → Int32 → Mem → Option (Int32 × Mem)) (a1 : Int32) (a2 : Int32) (a3 : Int32) (M : Mem) : Option (Int32 × Mem) :=
  (if a1 ≤ a3 then kx174 a1 a2 M else (ck ((64 : Int32) + a3) 128 (if a2 ≤ (3 : Int32) then (F10_readsSayings_b48 kh kx85 kx174) a1 a2 a3 (M 5 ((64 : Int32) + a3).toNatClampNeg) M else (if (M 5 ((64 : Int32) + a3).toNatClampNeg) = (59 : Int32) then (F10_readsSayings_b49 kh kx85 kx174) a1 a2 a3 (M 5 ((64 : Int32) + a3).toNatClampNeg) (1 : Int32) M else (F10_readsSayings_b48 kh kx85 kx174) a1 a2 a3 (M 5 ((64 : Int32) + a3).toNatClampNeg) M))))
noncomputable def F10_readsSayings_h16 (kx85 : Int32 → Mem → Option (Int32 × Mem)) (kx174 : Int32 → Int32 → Mem → Option (Int32 × Mem)) : Nat → Int32 → Int32 → Int32 → Mem → Option (Int32 × Mem)
  | 0, _, _, _, _ => none
  | n + 1, a1, a2, a3, M => F10_readsSayings_p16 (F10_readsSayings_h16 kx85 kx174 n) kx85 kx174 a1 a2 a3 M
noncomputable def F10_readsSayings (mm : Mem) : Option (Int32 × Mem) :=
  (lt (mset mm 0 9 (0 : Int32)) (fun M12 => ((F10_readsSayings_h16 F10_readsSayings_b85 F10_readsSayings_b174 FU) (M12 6 (1 : Int32).toNatClampNeg) (0 : Int32) (0 : Int32) M12)))
set_option maxHeartbeats 4000000 in
set_option maxRecDepth 100000 in
theorem kX10_readsSayings (l : Launch) (g : GG) (mc mm : Mem) (q : Int32 × Mem) (hF : F10_readsSayings mm = some q) : KI l yX10_readsSayings cX10_readsSayings 7 .int 2 46 g [.ref (g.1 108)] mc mm q.1 (mc, q.2) := by
  intro sz
  refine x_start (Qc := fun z => QI g z q.1 (mc, q.2)) (by decide +kernel) (Nat.le_of_ble_eq_true rfl) ?_ sz
  intro p e s m args below meth c ls Z hr hlk hP hl
  have hx := Z.1.1
  have hb := Z.1.2.1
  have hown := Z.1.2.2.2.1
  have hts := Z.1.2.2.2.2
  have hS : va_S (AA g s.heap.size) s.heap s.heap [] := va_S.rf
  have hl : lv_has ls 7 [(0, .ref (g.1 108))] := hl
  unfold F10_readsSayings at hF
  have hb204 : ∀ (s1 : Int32) (s2 : Int32) (M : Mem), F10_readsSayings_b204 s1 s2 M = some q → ∀ (H : Heap) (locs : List Loc) (ls : Array Slot), lv_has ls 7 [] → va_P g.2.2.1 vwCl (wL g mc M) H → va_S (AA g s.heap.size) s.heap H locs → W p l e { frames := 2, cells := 0, slots := 0, locals := 46 } s m args below meth c H locs 0 0 (MQ below (QI g s.heap.size q.1 (mc, q.2)) args s 0 0 (AA g s.heap.size)) (F0 m 204 ls [.int s2, .int s1, .ref (g.1 108)]) := by
    intro s1 s2 M hF H locs ls hl hP hS
    unfold F10_readsSayings_b204 at hF
    refine lv_iadd hx hb dX10_readsSayings_204 ?_
    refine pf10_9 Z hP hS wd_15_5 dX10_readsSayings_205 (fun H locs hP hS => ?_)
    refine lv_iconst (v := (-1 : Int32)) hx hb dX10_readsSayings_208 ic_m1 ?_
    exact ret_IWM Z hr hlk hP hS hF dX10_readsSayings_209
  have hb190 : ∀ (a1 : Int32) (M : Mem), F10_readsSayings_b190 a1 M = some q → ∀ (H : Heap) (locs : List Loc) (ls : Array Slot), lv_has ls 7 [(0, .ref (g.1 108)), (1, .int a1)] → va_P g.2.2.1 vwCl (wL g mc M) H → va_S (AA g s.heap.size) s.heap H locs → W p l e { frames := 2, cells := 0, slots := 0, locals := 46 } s m args below meth c H locs 0 0 (MQ below (QI g s.heap.size q.1 (mc, q.2)) args s 0 0 (AA g s.heap.size)) (F0 m 190 ls []) := by
    intro a1 M hF H locs ls hl hP hS
    unfold F10_readsSayings_b190 at hF
    refine lv_aload_n hx hb dX10_readsSayings_190 rfl (lv_at hl 0 rfl) ?_
    refine lv_dup hx hb dX10_readsSayings_191 rfl ?_
    refine gf10_9 Z hP wd_15_5 dX10_readsSayings_192 ?_
    refine lv_iload_n hx hb dX10_readsSayings_195 rfl (lv_at hl 1 rfl) ?_
    refine lv_if_le (tgt := 203) hx hb dX10_readsSayings_196 rfl (fun hc => ?_) (fun hc => ?_)
    · have hF := (if_pos hc).symm.trans hF
      refine lv_iconst (v := (0 : Int32)) hx hb dX10_readsSayings_203 ic_0 ?_
      exact hb204 _ _ _ hF _ _ _ (lv_sub hl [] rfl) hP hS
    · have hF := (if_neg hc).symm.trans hF
      refine lv_iconst (v := (1 : Int32)) hx hb dX10_readsSayings_199 ic_1 ?_
      refine lv_goto (tgt := 204) hx hb dX10_readsSayings_200 rfl ?_
      exact hb204 _ _ _ hF _ _ _ (lv_sub hl [] rfl) hP hS
  have hb174 : ∀ (a1 : Int32) (a2 : Int32) (M : Mem), F10_readsSayings_b174 a1 a2 M = some q → ∀ (H : Heap) (locs : List Loc) (ls : Array Slot), lv_has ls 7 [(0, .ref (g.1 108)), (1, .int a1), (2, .int a2)] → va_P g.2.2.1 vwCl (wL g mc M) H → va_S (AA g s.heap.size) s.heap H locs → W p l e { frames := 2, cells := 0, slots := 0, locals := 46 } s m args below meth c H locs 0 0 (MQ below (QI g s.heap.size q.1 (mc, q.2)) args s 0 0 (AA g s.heap.size)) (F0 m 174 ls []) := by
    intro a1 a2 M hF H locs ls hl hP hS
    unfold F10_readsSayings_b174 at hF
    refine lv_iload_n hx hb dX10_readsSayings_174 rfl (lv_at hl 1 rfl) ?_
    refine lv_if_le (tgt := 190) hx hb dX10_readsSayings_175 rfl (fun hc => ?_) (fun hc => ?_)
    · have hF := (if_pos hc).symm.trans hF
      exact hb190 _ _ hF _ _ _ (lv_sub hl [0, 1] rfl) hP hS
    · have hF := (if_neg hc).symm.trans hF
      refine lv_iload_n hx hb dX10_readsSayings_178 rfl (lv_at hl 2 rfl) ?_
      refine lv_iconst (v := (4 : Int32)) hx hb dX10_readsSayings_179 ic_4 ?_
      refine lv_icmp_ge (tgt := 190) hx hb dX10_readsSayings_180 rfl (fun hc => ?_) (fun hc => ?_)
      · have hF := (if_pos hc).symm.trans hF
        exact hb190 _ _ hF _ _ _ (lv_sub hl [0, 1] rfl) hP hS
      · have hF := (if_neg hc).symm.trans hF
        refine lv_aload_n hx hb dX10_readsSayings_183 rfl (lv_at hl 0 rfl) ?_
        refine lv_iconst (v := (0 : Int32)) hx hb dX10_readsSayings_184 ic_0 ?_
        refine pf10_9 Z hP hS wd_15_5 dX10_readsSayings_185 (fun H locs hP hS => ?_)
        refine lv_iload_n hx hb dX10_readsSayings_188 rfl (lv_at hl 1 rfl) ?_
        exact ret_IWM Z hr hlk hP hS hF dX10_readsSayings_189
  have hb85 : ∀ (a3 : Int32) (M : Mem), F10_readsSayings_b85 a3 M = some q → ∀ (H : Heap) (locs : List Loc) (ls : Array Slot), lv_has ls 7 [(0, .ref (g.1 108)), (3, .int a3)] → va_P g.2.2.1 vwCl (wL g mc M) H → va_S (AA g s.heap.size) s.heap H locs → W p l e { frames := 2, cells := 0, slots := 0, locals := 46 } s m args below meth c H locs 0 0 (MQ below (QI g s.heap.size q.1 (mc, q.2)) args s 0 0 (AA g s.heap.size)) (F0 m 85 ls []) := by
    intro a3 M hF H locs ls hl hP hS
    unfold F10_readsSayings_b85 at hF
    refine lv_aload_n hx hb dX10_readsSayings_85 rfl (lv_at hl 0 rfl) ?_
    refine lv_iconst (v := (0 : Int32)) hx hb dX10_readsSayings_86 ic_0 ?_
    refine pf10_9 Z hP hS wd_15_5 dX10_readsSayings_87 (fun H locs hP hS => ?_)
    refine lv_iload_n hx hb dX10_readsSayings_90 rfl (lv_at hl 1 rfl) ?_
    exact ret_IWM Z hr hlk hP hS hF dX10_readsSayings_91
  have hL16 : ∀ (kx85 : Int32 → Mem → Option (Int32 × Mem)) (kx174 : Int32 → Int32 → Mem → Option (Int32 × Mem)), (∀ (a3 : Int32) (M : Mem), kx85 a3 M = some q → ∀ (H : Heap) (locs : List Loc) (ls : Array Slot), lv_has ls 7 [(0, .ref (g.1 108)), (3, .int a3)] → va_P g.2.2.1 vwCl (wL g mc M) H → va_S (AA g s.heap.size) s.heap H locs → W p l e { frames := 2, cells := 0, slots := 0, locals := 46 } s m args below meth c H locs 0 0 (MQ below (QI g s.heap.size q.1 (mc, q.2)) args s 0 0 (AA g s.heap.size)) (F0 m 85 ls [])) → (∀ (a1 : Int32) (a2 : Int32) (M : Mem), kx174 a1 a2 M = some q → ∀ (H : Heap) (locs : List Loc) (ls : Array Slot), lv_has ls 7 [(0, .ref (g.1 108)), (1, .int a1), (2, .int a2)] → va_P g.2.2.1 vwCl (wL g mc M) H → va_S (AA g s.heap.size) s.heap H locs → W p l e { frames := 2, cells := 0, slots := 0, locals := 46 } s m args below meth c H locs 0 0 (MQ below (QI g s.heap.size q.1 (mc, q.2)) args s 0 0 (AA g s.heap.size)) (F0 m 174 ls [])) → ∀ n : Nat, ∀ (a1 : Int32) (a2 : Int32) (a3 : Int32) (M : Mem), F10_readsSayings_h16 kx85 kx174 n a1 a2 a3 M = some q → ∀ (H : Heap) (locs : List Loc) (ls : Array Slot), lv_has ls 7 [(0, .ref (g.1 108)), (1, .int a1), (2, .int a2), (3, .int a3)] → va_P g.2.2.1 vwCl (wL g mc M) H → va_S (AA g s.heap.size) s.heap H locs → W p l e { frames := 2, cells := 0, slots := 0, locals := 46 } s m args below meth c H locs 0 0 (MQ below (QI g s.heap.size q.1 (mc, q.2)) args s 0 0 (AA g s.heap.size)) (F0 m 16 ls []) := by
    intro kx85 kx174 hx85 hx174 n
    induction n with
    | zero => intro a1 a2 a3 M hF H locs ls hl hP hS; exact absurd hF (fun z => nomatch (show (none : Option _) = some q from z))
    | succ n ih =>
      generalize hkh : F10_readsSayings_h16 kx85 kx174 n = kh at ih
      have hb168 : ∀ (a1 : Int32) (a2 : Int32) (a3 : Int32) (M : Mem), F10_readsSayings_b168 kh kx85 kx174 a1 a2 a3 M = some q → ∀ (H : Heap) (locs : List Loc) (ls : Array Slot), lv_has ls 7 [(0, .ref (g.1 108)), (1, .int a1), (2, .int a2), (3, .int a3)] → va_P g.2.2.1 vwCl (wL g mc M) H → va_S (AA g s.heap.size) s.heap H locs → W p l e { frames := 2, cells := 0, slots := 0, locals := 46 } s m args below meth c H locs 0 0 (MQ below (QI g s.heap.size q.1 (mc, q.2)) args s 0 0 (AA g s.heap.size)) (F0 m 168 ls []) := by
        intro a1 a2 a3 M hF H locs ls hl hP hS
        unfold F10_readsSayings_b168 at hF
        refine lv_iinc (lv' := [(3, .int (a3 + (1 : Int32))), (0, .ref (g.1 108)), (1, .int a1), (2, .int a2)]) (v := (a3 + (1 : Int32))) hx hb dX10_readsSayings_168 hl (k := 3) rfl (io_1 _) (Nat.le_of_ble_eq_true rfl) rfl (fun ls hl => ?_)
        refine lv_goto (tgt := 16) hx hb dX10_readsSayings_171 rfl ?_
        exact ih _ _ _ _ hF _ _ _ (lv_sub hl [1, 2, 3, 0] rfl) hP hS
      have hb164 : ∀ (a1 : Int32) (a2 : Int32) (a3 : Int32) (s1 : Int32) (s2 : Int32) (M : Mem), F10_readsSayings_b164 kh kx85 kx174 a1 a2 a3 s1 s2 M = some q → ∀ (H : Heap) (locs : List Loc) (ls : Array Slot), lv_has ls 7 [(0, .ref (g.1 108)), (1, .int a1), (2, .int a2), (3, .int a3)] → va_P g.2.2.1 vwCl (wL g mc M) H → va_S (AA g s.heap.size) s.heap H locs → W p l e { frames := 2, cells := 0, slots := 0, locals := 46 } s m args below meth c H locs 0 0 (MQ below (QI g s.heap.size q.1 (mc, q.2)) args s 0 0 (AA g s.heap.size)) (F0 m 164 ls [.int s2, .int s1, .ref (g.1 116)]) := by
        intro a1 a2 a3 s1 s2 M hF H locs ls hl hP hS
        unfold F10_readsSayings_b164 at hF
        obtain ⟨hi7, hF⟩ := ck_ok hF
        refine rM_st Z hP hS 64 8 (by decide +kernel) hi7 dX10_readsSayings_164 (fun H locs hP hS => ?_)
        refine lv_iinc (lv' := [(2, .int (a2 + (1 : Int32))), (0, .ref (g.1 108)), (1, .int a1), (3, .int a3)]) (v := (a2 + (1 : Int32))) hx hb dX10_readsSayings_165 hl (k := 2) rfl (io_1 _) (Nat.le_of_ble_eq_true rfl) rfl (fun ls hl => ?_)
        exact hb168 _ _ _ _ hF _ _ _ (lv_sub hl [1, 2, 0, 3] rfl) hP hS
      have hb135 : ∀ (a1 : Int32) (a2 : Int32) (a3 : Int32) (a6 : Int32) (s1 : Int32) (s2 : Int32) (M : Mem), F10_readsSayings_b135 kh kx85 kx174 a1 a2 a3 a6 s1 s2 M = some q → ∀ (H : Heap) (locs : List Loc) (ls : Array Slot), lv_has ls 7 [(0, .ref (g.1 108)), (1, .int a1), (2, .int a2), (3, .int a3), (6, .int a6)] → va_P g.2.2.1 vwCl (wL g mc M) H → va_S (AA g s.heap.size) s.heap H locs → W p l e { frames := 2, cells := 0, slots := 0, locals := 46 } s m args below meth c H locs 0 0 (MQ below (QI g s.heap.size q.1 (mc, q.2)) args s 0 0 (AA g s.heap.size)) (F0 m 135 ls [.int s2, .int s1, .ref (g.1 116)]) := by
        intro a1 a2 a3 a6 s1 s2 M hF H locs ls hl hP hS
        unfold F10_readsSayings_b135 at hF
        refine lv_iadd hx hb dX10_readsSayings_135 ?_
        refine lv_iload hx hb dX10_readsSayings_136 (lv_at hl 4 rfl) ?_
        obtain ⟨hi8, hF⟩ := ck_ok hF
        refine rM_st Z hP hS 64 8 (by decide +kernel) hi8 dX10_readsSayings_138 (fun H locs hP hS => ?_)
        refine lv_aload_n hx hb dX10_readsSayings_139 rfl (lv_at hl 0 rfl) ?_
        refine gf10_10 Z hP wd_6_11 dX10_readsSayings_140 ?_
        refine lv_bipush (v := (8 : Int32)) hx hb dX10_readsSayings_143 bp_8 ?_
        refine lv_aload_n hx hb dX10_readsSayings_145 rfl (lv_at hl 0 rfl) ?_
        obtain ⟨M9, eM9, hF⟩ := lt_ok hF
        have hP : va_P g.2.2.1 vwCl (wL g mc M9) H := by rw [eM9]; exact hP
        refine gf10_9 Z hP wd_15_5 dX10_readsSayings_146 ?_
        refine lv_imul hx hb dX10_readsSayings_149 ?_
        refine lv_iconst (v := (3 : Int32)) hx hb dX10_readsSayings_150 ic_3 ?_
        refine lv_iadd hx hb dX10_readsSayings_151 ?_
        refine lv_iload_n hx hb dX10_readsSayings_152 rfl (lv_at hl 2 rfl) ?_
        refine lv_iconst (v := (3 : Int32)) hx hb dX10_readsSayings_153 ic_3 ?_
        refine lv_icmp_ge (tgt := 161) hx hb dX10_readsSayings_154 rfl (fun hc => ?_) (fun hc => ?_)
        · have hF := (if_pos hc).symm.trans hF
          refine lv_iload_n hx hb dX10_readsSayings_161 rfl (lv_at hl 2 rfl) ?_
          refine lv_iconst (v := (2 : Int32)) hx hb dX10_readsSayings_162 ic_2 ?_
          refine lv_isub hx hb dX10_readsSayings_163 ?_
          exact hb164 _ _ _ _ _ _ hF _ _ _ (lv_sub hl [0, 1, 2, 3] rfl) hP hS
        · have hF := (if_neg hc).symm.trans hF
          refine lv_iconst (v := (0 : Int32)) hx hb dX10_readsSayings_157 ic_0 ?_
          refine lv_goto (tgt := 164) hx hb dX10_readsSayings_158 rfl ?_
          exact hb164 _ _ _ _ _ _ hF _ _ _ (lv_sub hl [0, 1, 2, 3] rfl) hP hS
      have hb92 : ∀ (a1 : Int32) (a2 : Int32) (a3 : Int32) (a5 : Int32) (a6 : Int32) (M : Mem), F10_readsSayings_b92 kh kx85 kx174 a1 a2 a3 a5 a6 M = some q → ∀ (H : Heap) (locs : List Loc) (ls : Array Slot), lv_has ls 7 [(0, .ref (g.1 108)), (1, .int a1), (2, .int a2), (3, .int a3), (5, .int a5), (6, .int a6)] → va_P g.2.2.1 vwCl (wL g mc M) H → va_S (AA g s.heap.size) s.heap H locs → W p l e { frames := 2, cells := 0, slots := 0, locals := 46 } s m args below meth c H locs 0 0 (MQ below (QI g s.heap.size q.1 (mc, q.2)) args s 0 0 (AA g s.heap.size)) (F0 m 92 ls []) := by
        intro a1 a2 a3 a5 a6 M hF H locs ls hl hP hS
        unfold F10_readsSayings_b92 at hF
        refine lv_iload hx hb dX10_readsSayings_92 (lv_at hl 4 rfl) ?_
        refine lv_if_eq (tgt := 112) hx hb dX10_readsSayings_94 rfl (fun hc => ?_) (fun hc => ?_)
        · have hF := (if_pos hc).symm.trans hF
          refine lv_aload_n hx hb dX10_readsSayings_112 rfl (lv_at hl 0 rfl) ?_
          refine gf10_10 Z hP wd_6_11 dX10_readsSayings_113 ?_
          refine lv_bipush (v := (8 : Int32)) hx hb dX10_readsSayings_116 bp_8 ?_
          refine lv_aload_n hx hb dX10_readsSayings_118 rfl (lv_at hl 0 rfl) ?_
          refine gf10_9 Z hP wd_15_5 dX10_readsSayings_119 ?_
          refine lv_imul hx hb dX10_readsSayings_122 ?_
          refine lv_iload_n hx hb dX10_readsSayings_123 rfl (lv_at hl 2 rfl) ?_
          refine lv_iconst (v := (3 : Int32)) hx hb dX10_readsSayings_124 ic_3 ?_
          refine lv_icmp_ge (tgt := 132) hx hb dX10_readsSayings_125 rfl (fun hc => ?_) (fun hc => ?_)
          · have hF := (if_pos hc).symm.trans hF
            refine lv_iload_n hx hb dX10_readsSayings_132 rfl (lv_at hl 2 rfl) ?_
            refine lv_iconst (v := (1 : Int32)) hx hb dX10_readsSayings_133 ic_1 ?_
            refine lv_iadd hx hb dX10_readsSayings_134 ?_
            exact hb135 _ _ _ _ _ _ _ hF _ _ _ (lv_sub hl [0, 1, 2, 3, 5] rfl) hP hS
          · have hF := (if_neg hc).symm.trans hF
            refine lv_iload_n hx hb dX10_readsSayings_128 rfl (lv_at hl 2 rfl) ?_
            refine lv_goto (tgt := 135) hx hb dX10_readsSayings_129 rfl ?_
            exact hb135 _ _ _ _ _ _ _ hF _ _ _ (lv_sub hl [0, 1, 2, 3, 5] rfl) hP hS
        · have hF := (if_neg hc).symm.trans hF
          refine lv_aload_n hx hb dX10_readsSayings_97 rfl (lv_at hl 0 rfl) ?_
          refine lv_dup hx hb dX10_readsSayings_98 rfl ?_
          refine gf10_9 Z hP wd_15_5 dX10_readsSayings_99 ?_
          refine lv_iconst (v := (1 : Int32)) hx hb dX10_readsSayings_102 ic_1 ?_
          refine lv_iadd hx hb dX10_readsSayings_103 ?_
          refine pf10_9 Z hP hS wd_15_5 dX10_readsSayings_104 (fun H locs hP hS => ?_)
          refine lv_iconst (v := (0 : Int32)) hx hb dX10_readsSayings_107 ic_0 ?_
          refine lv_istore_n (lv' := [(2, .int (0 : Int32)), (0, .ref (g.1 108)), (1, .int a1), (3, .int a3), (5, .int a5), (6, .int a6)]) hx hb dX10_readsSayings_108 rfl hl (Nat.le_of_ble_eq_true rfl) rfl (fun ls hl => ?_)
          refine lv_goto (tgt := 168) hx hb dX10_readsSayings_109 rfl ?_
          exact hb168 _ _ _ _ hF _ _ _ (lv_sub hl [1, 2, 0, 3] rfl) hP hS
      have hb71 : ∀ (a1 : Int32) (a2 : Int32) (a3 : Int32) (a5 : Int32) (s0 : Int32) (M : Mem), F10_readsSayings_b71 kh kx85 kx174 a1 a2 a3 a5 s0 M = some q → ∀ (H : Heap) (locs : List Loc) (ls : Array Slot), lv_has ls 7 [(0, .ref (g.1 108)), (1, .int a1), (2, .int a2), (3, .int a3), (5, .int a5)] → va_P g.2.2.1 vwCl (wL g mc M) H → va_S (AA g s.heap.size) s.heap H locs → W p l e { frames := 2, cells := 0, slots := 0, locals := 46 } s m args below meth c H locs 0 0 (MQ below (QI g s.heap.size q.1 (mc, q.2)) args s 0 0 (AA g s.heap.size)) (F0 m 71 ls [.int s0]) := by
        intro a1 a2 a3 a5 s0 M hF H locs ls hl hP hS
        unfold F10_readsSayings_b71 at hF
        refine lv_istore (lv' := [(6, .int s0), (0, .ref (g.1 108)), (1, .int a1), (2, .int a2), (3, .int a3), (5, .int a5)]) hx hb dX10_readsSayings_71 hl (Nat.le_of_ble_eq_true rfl) rfl (fun ls hl => ?_)
        refine lv_iload hx hb dX10_readsSayings_73 (lv_at hl 0 rfl) ?_
        refine lv_bipush (v := (-9 : Int32)) hx hb dX10_readsSayings_75 bp_m9 ?_
        refine lv_icmp_ne (tgt := 92) hx hb dX10_readsSayings_77 rfl (fun hc => ?_) (fun hc => ?_)
        · have hF := (if_neg hc).symm.trans hF
          exact hb92 _ _ _ _ _ _ hF _ _ _ (lv_sub hl [1, 2, 3, 4, 5, 0] rfl) hP hS
        · have hF := (if_pos hc).symm.trans hF
          refine lv_iload hx hb dX10_readsSayings_80 (lv_at hl 5 rfl) ?_
          refine lv_if_ne (tgt := 92) hx hb dX10_readsSayings_82 rfl (fun hc => ?_) (fun hc => ?_)
          · have hF := (if_neg hc).symm.trans hF
            exact hb92 _ _ _ _ _ _ hF _ _ _ (lv_sub hl [1, 2, 3, 4, 5, 0] rfl) hP hS
          · have hF := (if_pos hc).symm.trans hF
            exact hx85 _ _ hF _ _ _ (lv_sub hl [1, 4] rfl) hP hS
      have hb49 : ∀ (a1 : Int32) (a2 : Int32) (a3 : Int32) (a4 : Int32) (s0 : Int32) (M : Mem), F10_readsSayings_b49 kh kx85 kx174 a1 a2 a3 a4 s0 M = some q → ∀ (H : Heap) (locs : List Loc) (ls : Array Slot), lv_has ls 7 [(0, .ref (g.1 108)), (1, .int a1), (2, .int a2), (3, .int a3), (4, .int a4)] → va_P g.2.2.1 vwCl (wL g mc M) H → va_S (AA g s.heap.size) s.heap H locs → W p l e { frames := 2, cells := 0, slots := 0, locals := 46 } s m args below meth c H locs 0 0 (MQ below (QI g s.heap.size q.1 (mc, q.2)) args s 0 0 (AA g s.heap.size)) (F0 m 49 ls [.int s0]) := by
        intro a1 a2 a3 a4 s0 M hF H locs ls hl hP hS
        unfold F10_readsSayings_b49 at hF
        refine lv_istore (lv' := [(5, .int s0), (0, .ref (g.1 108)), (1, .int a1), (2, .int a2), (3, .int a3), (4, .int a4)]) hx hb dX10_readsSayings_49 hl (Nat.le_of_ble_eq_true rfl) rfl (fun ls hl => ?_)
        refine lv_aload_n hx hb dX10_readsSayings_51 rfl (lv_at hl 1 rfl) ?_
        refine gf10_9 Z hP wd_15_5 dX10_readsSayings_52 ?_
        refine lv_bipush (v := (8 : Int32)) hx hb dX10_readsSayings_55 bp_8 ?_
        refine lv_icmp_ge (tgt := 69) hx hb dX10_readsSayings_57 rfl (fun hc => ?_) (fun hc => ?_)
        · have hF := (if_pos hc).symm.trans hF
          refine lv_bipush (v := (-9 : Int32)) hx hb dX10_readsSayings_69 bp_m9 ?_
          exact hb71 _ _ _ _ _ _ hF _ _ _ (lv_sub hl [1, 2, 3, 4, 0] rfl) hP hS
        · have hF := (if_neg hc).symm.trans hF
          refine lv_iload_n hx hb dX10_readsSayings_60 rfl (lv_at hl 3 rfl) ?_
          refine lv_iload hx hb dX10_readsSayings_61 (lv_at hl 5 rfl) ?_
          obtain ⟨q10, hq10, hF⟩ := bd_ok hF
          refine xX10_sayingOf Z hP hS hq10 wd_15_6 hl.1 (Nat.le_of_ble_eq_true rfl) ⟨Nat.le_of_ble_eq_true rfl, Nat.le_of_ble_eq_true rfl⟩ dX10_readsSayings_63 (fun H locs hP hS => ?_)
          refine lv_goto (tgt := 71) hx hb dX10_readsSayings_66 rfl ?_
          exact hb71 _ _ _ _ _ _ hF _ _ _ (lv_sub hl [1, 2, 3, 4, 0] rfl) hP hS
      have hb48 : ∀ (a1 : Int32) (a2 : Int32) (a3 : Int32) (a4 : Int32) (M : Mem), F10_readsSayings_b48 kh kx85 kx174 a1 a2 a3 a4 M = some q → ∀ (H : Heap) (locs : List Loc) (ls : Array Slot), lv_has ls 7 [(0, .ref (g.1 108)), (1, .int a1), (2, .int a2), (3, .int a3), (4, .int a4)] → va_P g.2.2.1 vwCl (wL g mc M) H → va_S (AA g s.heap.size) s.heap H locs → W p l e { frames := 2, cells := 0, slots := 0, locals := 46 } s m args below meth c H locs 0 0 (MQ below (QI g s.heap.size q.1 (mc, q.2)) args s 0 0 (AA g s.heap.size)) (F0 m 48 ls []) := by
        intro a1 a2 a3 a4 M hF H locs ls hl hP hS
        unfold F10_readsSayings_b48 at hF
        refine lv_iconst (v := (0 : Int32)) hx hb dX10_readsSayings_48 ic_0 ?_
        exact hb49 _ _ _ _ _ _ hF _ _ _ (lv_sub hl [0, 1, 2, 3, 4] rfl) hP hS
      intro a1 a2 a3 M hF H locs ls hl hP hS
      have hF : F10_readsSayings_p16 (F10_readsSayings_h16 kx85 kx174 n) kx85 kx174 a1 a2 a3 M = some q := hF
      rw [hkh] at hF
      unfold F10_readsSayings_p16 at hF
      refine lv_iload_n hx hb dX10_readsSayings_16 rfl (lv_at hl 3 rfl) ?_
      refine lv_iload_n hx hb dX10_readsSayings_17 rfl (lv_at hl 1 rfl) ?_
      refine lv_icmp_ge (tgt := 174) hx hb dX10_readsSayings_18 rfl (fun hc => ?_) (fun hc => ?_)
      · have hF := (if_pos hc).symm.trans hF
        exact hx174 _ _ _ hF _ _ _ (lv_sub hl [0, 1, 2] rfl) hP hS
      · have hF := (if_neg hc).symm.trans hF
        refine lv_aload_n hx hb dX10_readsSayings_21 rfl (lv_at hl 0 rfl) ?_
        refine gf10_5 Z hP wd_6_8 dX10_readsSayings_22 ?_
        refine lv_bipush (v := (64 : Int32)) hx hb dX10_readsSayings_25 bp_64 ?_
        refine lv_iload_n hx hb dX10_readsSayings_27 rfl (lv_at hl 3 rfl) ?_
        refine lv_iadd hx hb dX10_readsSayings_28 ?_
        obtain ⟨hi11, hF⟩ := ck_ok hF
        refine rM_ld Z hP 128 5 (by decide +kernel) hi11 dX10_readsSayings_29 ?_
        refine lv_istore (lv' := [(4, .int (M 5 ((64 : Int32) + a3).toNatClampNeg)), (0, .ref (g.1 108)), (1, .int a1), (2, .int a2), (3, .int a3)]) hx hb dX10_readsSayings_30 hl (Nat.le_of_ble_eq_true rfl) rfl (fun ls hl => ?_)
        refine lv_iload_n hx hb dX10_readsSayings_32 rfl (lv_at hl 3 rfl) ?_
        refine lv_iconst (v := (3 : Int32)) hx hb dX10_readsSayings_33 ic_3 ?_
        refine lv_icmp_le (tgt := 48) hx hb dX10_readsSayings_34 rfl (fun hc => ?_) (fun hc => ?_)
        · have hF := (if_pos hc).symm.trans hF
          exact hb48 _ _ _ _ _ hF _ _ _ (lv_sub hl [1, 2, 3, 4, 0] rfl) hP hS
        · have hF := (if_neg hc).symm.trans hF
          refine lv_iload hx hb dX10_readsSayings_37 (lv_at hl 0 rfl) ?_
          refine lv_bipush (v := (59 : Int32)) hx hb dX10_readsSayings_39 bp_59 ?_
          refine lv_icmp_ne (tgt := 48) hx hb dX10_readsSayings_41 rfl (fun hc => ?_) (fun hc => ?_)
          · have hF := (if_neg hc).symm.trans hF
            exact hb48 _ _ _ _ _ hF _ _ _ (lv_sub hl [1, 2, 3, 4, 0] rfl) hP hS
          · have hF := (if_pos hc).symm.trans hF
            refine lv_iconst (v := (1 : Int32)) hx hb dX10_readsSayings_44 ic_1 ?_
            refine lv_goto (tgt := 49) hx hb dX10_readsSayings_45 rfl ?_
            exact hb49 _ _ _ _ _ _ hF _ _ _ (lv_sub hl [1, 2, 3, 4, 0] rfl) hP hS
  refine lv_aload_n hx hb dX10_readsSayings_0 rfl (lv_at hl 0 rfl) ?_
  refine lv_iconst (v := (0 : Int32)) hx hb dX10_readsSayings_1 ic_0 ?_
  refine pf10_9 Z hP hS wd_15_5 dX10_readsSayings_2 (fun H locs hP hS => ?_)
  refine lv_aload_n hx hb dX10_readsSayings_5 rfl (lv_at hl 0 rfl) ?_
  refine gf10_6 Z hP wd_6_9 dX10_readsSayings_6 ?_
  refine lv_iconst (v := (1 : Int32)) hx hb dX10_readsSayings_9 ic_1 ?_
  obtain ⟨M12, eM12, hF⟩ := lt_ok hF
  have hP : va_P g.2.2.1 vwCl (wL g mc M12) H := by rw [eM12]; exact hP
  refine rM_ld Z hP 2 6 (by decide +kernel) (inl (by decide)) dX10_readsSayings_10 ?_
  refine lv_istore_n (lv' := [(1, .int (M12 6 (1 : Int32).toNatClampNeg)), (0, .ref (g.1 108))]) hx hb dX10_readsSayings_11 rfl hl (Nat.le_of_ble_eq_true rfl) rfl (fun ls hl => ?_)
  refine lv_iconst (v := (0 : Int32)) hx hb dX10_readsSayings_12 ic_0 ?_
  refine lv_istore_n (lv' := [(2, .int (0 : Int32)), (1, .int (M12 6 (1 : Int32).toNatClampNeg)), (0, .ref (g.1 108))]) hx hb dX10_readsSayings_13 rfl hl (Nat.le_of_ble_eq_true rfl) rfl (fun ls hl => ?_)
  refine lv_iconst (v := (0 : Int32)) hx hb dX10_readsSayings_14 ic_0 ?_
  refine lv_istore_n (lv' := [(3, .int (0 : Int32)), (2, .int (0 : Int32)), (1, .int (M12 6 (1 : Int32).toNatClampNeg)), (0, .ref (g.1 108))]) hx hb dX10_readsSayings_15 rfl hl (Nat.le_of_ble_eq_true rfl) rfl (fun ls hl => ?_)
  exact (hL16 _ _ hb85 hb174 FU) _ _ _ _ hF _ _ _ (lv_sub hl [3, 2, 1, 0] rfl) hP hS
theorem xX10_readsSayings {p : Program} {l : Launch} {e : Env} {R : Room} {s : State} {m : MethodId} {args : Array Value} {below : List Frame} {meth : Method} {c : Code} {H : Heap} {locs : List Loc} {Q : State → Prop} {cc : ByteArray} {nL : Nat} {own : String} {g : GG} {pc index : Nat} {ls : Array Slot} {rest : List Value} {mc mm : Mem} (Z : ZZ p s m args c cc nL own g) (hP : va_P g.2.2.1 vwCl (wL g mc mm) H) (hS : va_S (AA g s.heap.size) s.heap H locs) {q : Int32 × Mem} (hq : F10_readsSayings mm = some q) (hlk : Cond.methodLink own index yX10_readsSayings ∈ wsL_law) (hsz : ls.size = nL) (hro : (rest.map fun v => v.category).sum ≤ 8) (hR : 2 + 1 ≤ R.frames ∧ 8 + (7 + 11) + 46 ≤ R.locals) (hdg : decode cc pc = .ok (.invokevirtual index, 3)) (kk : ∀ (H : Heap) (locs : List Loc), va_P g.2.2.1 vwCl (wL g mc q.2) H → va_S (AA g s.heap.size) s.heap H locs → W p l e R s m args below meth c H locs 0 0 Q (F0 m (pc + 3) ls (.int q.1 :: rest))) : W p l e R s m args below meth c H locs 0 0 Q (F0 m pc ls (.ref (g.1 108) :: rest)) :=
  x_VI Z hP hS (kX10_readsSayings l g mc mm q hq) (mO) (ci := 10) (by decide) rfl rfl mf_X10_readsSayings mv_X10_readsSayings hlk rfl rfl hsz hro hR hdg kk
theorem dX10_readsText_0 : decode cX10_readsText 0 = .ok (.iload_n 1, 1) := by decide +kernel
theorem dX10_readsText_1 : decode cX10_readsText 1 = .ok (.ifCond .ne 10, 3) := by decide +kernel
theorem dX10_readsText_4 : decode cX10_readsText 4 = .ok (.aload_n 0, 1) := by decide +kernel
theorem dX10_readsText_5 : decode cX10_readsText 5 = .ok (.invokevirtual 140, 3) := by decide +kernel
theorem dX10_readsText_8 : decode cX10_readsText 8 = .ok (.goto 7, 3) := by decide +kernel
theorem dX10_readsText_11 : decode cX10_readsText 11 = .ok (.aload_n 0, 1) := by decide +kernel
theorem dX10_readsText_12 : decode cX10_readsText 12 = .ok (.invokevirtual 144, 3) := by decide +kernel
theorem dX10_readsText_15 : decode cX10_readsText 15 = .ok (.ireturn, 1) := by decide +kernel
noncomputable def F10_readsText (v1 : Int32) (mm : Mem) : Option (Int32 × Mem) :=
  (if v1 = (0 : Int32) then ((F10_readsWells mm).bind (fun q4 => (some (q4.1, q4.2)))) else ((F10_readsSayings mm).bind (fun q3 => (some (q3.1, q3.2)))))
set_option maxHeartbeats 4000000 in
set_option maxRecDepth 100000 in
theorem kX10_readsText (l : Launch) (g : GG) (v1 : Int32) (mc mm : Mem) (q : Int32 × Mem) (hF : F10_readsText v1 mm = some q) : KI l yX10_readsText cX10_readsText 2 .int 3 72 g [.ref (g.1 108), .int v1] mc mm q.1 (mc, q.2) := by
  intro sz
  refine x_start (Qc := fun z => QI g z q.1 (mc, q.2)) (by decide +kernel) (Nat.le_of_ble_eq_true rfl) ?_ sz
  intro p e s m args below meth c ls Z hr hlk hP hl
  have hx := Z.1.1
  have hb := Z.1.2.1
  have hown := Z.1.2.2.2.1
  have hts := Z.1.2.2.2.2
  have hS : va_S (AA g s.heap.size) s.heap s.heap [] := va_S.rf
  have hl : lv_has ls 2 [(0, .ref (g.1 108)), (1, .int v1)] := hl
  unfold F10_readsText at hF
  refine lv_iload_n hx hb dX10_readsText_0 rfl (lv_at hl 1 rfl) ?_
  refine lv_if_ne (tgt := 11) hx hb dX10_readsText_1 rfl (fun hc => ?_) (fun hc => ?_)
  · have hF := (if_neg hc).symm.trans hF
    refine lv_aload_n hx hb dX10_readsText_11 rfl (lv_at hl 0 rfl) ?_
    obtain ⟨q3, hq3, hF⟩ := bd_ok hF
    refine xX10_readsSayings Z hP hS hq3 wd_15_1 hl.1 (Nat.le_of_ble_eq_true rfl) ⟨Nat.le_of_ble_eq_true rfl, Nat.le_of_ble_eq_true rfl⟩ dX10_readsText_12 (fun H locs hP hS => ?_)
    exact ret_IWM Z hr hlk hP hS hF dX10_readsText_15
  · have hF := (if_pos hc).symm.trans hF
    refine lv_aload_n hx hb dX10_readsText_4 rfl (lv_at hl 0 rfl) ?_
    obtain ⟨q4, hq4, hF⟩ := bd_ok hF
    refine xX10_readsWells Z hP hS hq4 wd_14_15 hl.1 (Nat.le_of_ble_eq_true rfl) ⟨Nat.le_of_ble_eq_true rfl, Nat.le_of_ble_eq_true rfl⟩ dX10_readsText_5 (fun H locs hP hS => ?_)
    refine lv_goto (tgt := 15) hx hb dX10_readsText_8 rfl ?_
    exact ret_IWM Z hr hlk hP hS hF dX10_readsText_15
theorem xX10_readsText {p : Program} {l : Launch} {e : Env} {R : Room} {s : State} {m : MethodId} {args : Array Value} {below : List Frame} {meth : Method} {c : Code} {H : Heap} {locs : List Loc} {Q : State → Prop} {cc : ByteArray} {nL : Nat} {own : String} {g : GG} {pc index : Nat} {ls : Array Slot} {rest : List Value} {mc mm : Mem} (Z : ZZ p s m args c cc nL own g) (hP : va_P g.2.2.1 vwCl (wL g mc mm) H) (hS : va_S (AA g s.heap.size) s.heap H locs) {v1 : Int32} {q : Int32 × Mem} (hq : F10_readsText v1 mm = some q) (hlk : Cond.methodLink own index yX10_readsText ∈ wsL_law) (hsz : ls.size = nL) (hro : (rest.map fun v => v.category).sum ≤ 8) (hR : 3 + 1 ≤ R.frames ∧ 8 + (2 + 11) + 72 ≤ R.locals) (hdg : decode cc pc = .ok (.invokevirtual index, 3)) (kk : ∀ (H : Heap) (locs : List Loc), va_P g.2.2.1 vwCl (wL g mc q.2) H → va_S (AA g s.heap.size) s.heap H locs → W p l e R s m args below meth c H locs 0 0 Q (F0 m (pc + 3) ls (.int q.1 :: rest))) : W p l e R s m args below meth c H locs 0 0 Q (F0 m pc ls (.int v1 :: .ref (g.1 108) :: rest)) :=
  x_VI Z hP hS (kX10_readsText l g v1 mc mm q hq) (mO) (ci := 10) (by decide) rfl rfl mf_X10_readsText mv_X10_readsText hlk rfl rfl hsz hro hR hdg kk
theorem dX10_fault_0 : decode cX10_fault 0 = .ok (.iload_n 1, 1) := by decide +kernel
theorem dX10_fault_1 : decode cX10_fault 1 = .ok (.invokestatic 111, 3) := by decide +kernel
theorem dX10_fault_4 : decode cX10_fault 4 = .ok (.ifCond .eq 11, 3) := by decide +kernel
theorem dX10_fault_7 : decode cX10_fault 7 = .ok (.aload_n 0, 1) := by decide +kernel
theorem dX10_fault_8 : decode cX10_fault 8 = .ok (.iload_n 1, 1) := by decide +kernel
theorem dX10_fault_9 : decode cX10_fault 9 = .ok (.invokevirtual 147, 3) := by decide +kernel
theorem dX10_fault_12 : decode cX10_fault 12 = .ok (.goto 5, 3) := by decide +kernel
theorem dX10_fault_15 : decode cX10_fault 15 = .ok (.bipush (-2), 2) := by decide +kernel
theorem dX10_fault_17 : decode cX10_fault 17 = .ok (.ireturn, 1) := by decide +kernel
noncomputable def F10_fault (v1 : Int32) (mm : Mem) : Option (Int32 × Mem) :=
  ((F10_isTwo v1).bind (fun q3 => (if q3 = (0 : Int32) then some ((-2 : Int32), mm) else ((F10_readsText v1 mm).bind (fun q4 => (some (q4.1, q4.2)))))))
set_option maxHeartbeats 4000000 in
set_option maxRecDepth 100000 in
theorem kX10_fault (l : Launch) (g : GG) (v1 : Int32) (mc mm : Mem) (q : Int32 × Mem) (hF : F10_fault v1 mm = some q) : KI l yX10_fault cX10_fault 2 .int 4 93 g [.ref (g.1 108), .int v1] mc mm q.1 (mc, q.2) := by
  intro sz
  refine x_start (Qc := fun z => QI g z q.1 (mc, q.2)) (by decide +kernel) (Nat.le_of_ble_eq_true rfl) ?_ sz
  intro p e s m args below meth c ls Z hr hlk hP hl
  have hx := Z.1.1
  have hb := Z.1.2.1
  have hown := Z.1.2.2.2.1
  have hts := Z.1.2.2.2.2
  have hS : va_S (AA g s.heap.size) s.heap s.heap [] := va_S.rf
  have hl : lv_has ls 2 [(0, .ref (g.1 108)), (1, .int v1)] := hl
  unfold F10_fault at hF
  refine lv_iload_n hx hb dX10_fault_0 rfl (lv_at hl 1 rfl) ?_
  obtain ⟨q3, hq3, hF⟩ := bd_ok hF
  refine xX10_isTwo Z hP hS hq3 wd_13_5 hl.1 (Nat.le_of_ble_eq_true rfl) ⟨Nat.le_of_ble_eq_true rfl, Nat.le_of_ble_eq_true rfl⟩ dX10_fault_1 (fun H locs hP hS => ?_)
  refine lv_if_eq (tgt := 15) hx hb dX10_fault_4 rfl (fun hc => ?_) (fun hc => ?_)
  · have hF := (if_pos hc).symm.trans hF
    refine lv_bipush (v := (-2 : Int32)) hx hb dX10_fault_15 bp_m2 ?_
    exact ret_IWM Z hr hlk hP hS hF dX10_fault_17
  · have hF := (if_neg hc).symm.trans hF
    refine lv_aload_n hx hb dX10_fault_7 rfl (lv_at hl 0 rfl) ?_
    refine lv_iload_n hx hb dX10_fault_8 rfl (lv_at hl 1 rfl) ?_
    obtain ⟨q4, hq4, hF⟩ := bd_ok hF
    refine xX10_readsText Z hP hS hq4 wd_14_11 hl.1 (Nat.le_of_ble_eq_true rfl) ⟨Nat.le_of_ble_eq_true rfl, Nat.le_of_ble_eq_true rfl⟩ dX10_fault_9 (fun H locs hP hS => ?_)
    refine lv_goto (tgt := 17) hx hb dX10_fault_12 rfl ?_
    exact ret_IWM Z hr hlk hP hS hF dX10_fault_17
theorem xX10_fault {p : Program} {l : Launch} {e : Env} {R : Room} {s : State} {m : MethodId} {args : Array Value} {below : List Frame} {meth : Method} {c : Code} {H : Heap} {locs : List Loc} {Q : State → Prop} {cc : ByteArray} {nL : Nat} {own : String} {g : GG} {pc index : Nat} {ls : Array Slot} {rest : List Value} {mc mm : Mem} (Z : ZZ p s m args c cc nL own g) (hP : va_P g.2.2.1 vwCl (wL g mc mm) H) (hS : va_S (AA g s.heap.size) s.heap H locs) {v1 : Int32} {q : Int32 × Mem} (hq : F10_fault v1 mm = some q) (hlk : Cond.methodLink own index yX10_fault ∈ wsL_law) (hsz : ls.size = nL) (hro : (rest.map fun v => v.category).sum ≤ 8) (hR : 4 + 1 ≤ R.frames ∧ 8 + (2 + 11) + 93 ≤ R.locals) (hdg : decode cc pc = .ok (.invokevirtual index, 3)) (kk : ∀ (H : Heap) (locs : List Loc), va_P g.2.2.1 vwCl (wL g mc q.2) H → va_S (AA g s.heap.size) s.heap H locs → W p l e R s m args below meth c H locs 0 0 Q (F0 m (pc + 3) ls (.int q.1 :: rest))) : W p l e R s m args below meth c H locs 0 0 Q (F0 m pc ls (.int v1 :: .ref (g.1 108) :: rest)) :=
  x_VI Z hP hS (kX10_fault l g v1 mc mm q hq) (mO) (ci := 10) (by decide) rfl rfl mf_X10_fault mv_X10_fault hlk rfl rfl hsz hro hR hdg kk
theorem dX10_isWell_0 : decode cX10_isWell 0 = .ok (.iload_n 1, 1) := by decide +kernel
theorem dX10_isWell_1 : decode cX10_isWell 1 = .ok (.i2l, 1) := by decide +kernel
theorem dX10_isWell_2 : decode cX10_isWell 2 = .ok (.lconst 0, 1) := by decide +kernel
theorem dX10_isWell_3 : decode cX10_isWell 3 = .ok (.aload_n 0, 1) := by decide +kernel
theorem dX10_isWell_4 : decode cX10_isWell 4 = .ok (.getfield 120, 3) := by decide +kernel
theorem dX10_isWell_7 : decode cX10_isWell 7 = .ok (.iconst 1, 1) := by decide +kernel
theorem dX10_isWell_8 : decode cX10_isWell 8 = .ok (.isub, 1) := by decide +kernel
theorem dX10_isWell_9 : decode cX10_isWell 9 = .ok (.i2l, 1) := by decide +kernel
theorem dX10_isWell_10 : decode cX10_isWell 10 = .ok (.invokestatic 83, 3) := by decide +kernel
theorem dX10_isWell_13 : decode cX10_isWell 13 = .ok (.ireturn, 1) := by decide +kernel
noncomputable def F10_isWell (v1 : Int32) (mm : Mem) : Option (Int32) :=
  ((F10_in v1.toInt64 (0 : Int64) (((mm 0 7) - (1 : Int32)).toInt64)).bind (fun q2 => (bz q2 (some q2))))
set_option maxHeartbeats 4000000 in
set_option maxRecDepth 100000 in
theorem kX10_isWell (l : Launch) (g : GG) (v1 : Int32) (mc mm : Mem) (q : Int32) (hF : F10_isWell v1 mm = some q) : KI l yX10_isWell cX10_isWell 2 .boolean 1 25 g [.ref (g.1 108), .int v1] mc mm q (mc, mm) := by
  intro sz
  refine x_start (Qc := fun z => QI g z q (mc, mm)) (by decide +kernel) (Nat.le_of_ble_eq_true rfl) ?_ sz
  intro p e s m args below meth c ls Z hr hlk hP hl
  have hx := Z.1.1
  have hb := Z.1.2.1
  have hown := Z.1.2.2.2.1
  have hts := Z.1.2.2.2.2
  have hS : va_S (AA g s.heap.size) s.heap s.heap [] := va_S.rf
  have hl : lv_has ls 2 [(0, .ref (g.1 108)), (1, .int v1)] := hl
  unfold F10_isWell at hF
  refine lv_iload_n hx hb dX10_isWell_0 rfl (lv_at hl 1 rfl) ?_
  refine lv_i2l (v := v1.toInt64) hx hb dX10_isWell_1 rfl ?_
  refine lv_lconst (v := (0 : Int64)) hx hb dX10_isWell_2 lc_0 ?_
  refine lv_aload_n hx hb dX10_isWell_3 rfl (lv_at hl 0 rfl) ?_
  refine gf10_7 Z hP wd_14_19 dX10_isWell_4 ?_
  refine lv_iconst (v := (1 : Int32)) hx hb dX10_isWell_7 ic_1 ?_
  refine lv_isub hx hb dX10_isWell_8 ?_
  refine lv_i2l (v := ((mm 0 7) - (1 : Int32)).toInt64) hx hb dX10_isWell_9 rfl ?_
  obtain ⟨q2, hq2, hF⟩ := bd_ok hF
  refine xX10_in Z hP hS hq2 wd_13_8 hl.1 (Nat.le_of_ble_eq_true rfl) ⟨Nat.le_of_ble_eq_true rfl, Nat.le_of_ble_eq_true rfl⟩ dX10_isWell_10 (fun H locs hP hS => ?_)
  obtain ⟨hbz, hF⟩ := bz_ok hF
  exact ret_Z Z hr hlk hP hS hbz hF dX10_isWell_13
theorem xX10_isWell {p : Program} {l : Launch} {e : Env} {R : Room} {s : State} {m : MethodId} {args : Array Value} {below : List Frame} {meth : Method} {c : Code} {H : Heap} {locs : List Loc} {Q : State → Prop} {cc : ByteArray} {nL : Nat} {own : String} {g : GG} {pc index : Nat} {ls : Array Slot} {rest : List Value} {mc mm : Mem} (Z : ZZ p s m args c cc nL own g) (hP : va_P g.2.2.1 vwCl (wL g mc mm) H) (hS : va_S (AA g s.heap.size) s.heap H locs) {v1 : Int32} {q : Int32} (hq : F10_isWell v1 mm = some q) (hlk : Cond.methodLink own index yX10_isWell ∈ wsL_law) (hsz : ls.size = nL) (hro : (rest.map fun v => v.category).sum ≤ 8) (hR : 1 + 1 ≤ R.frames ∧ 8 + (2 + 11) + 25 ≤ R.locals) (hdg : decode cc pc = .ok (.invokevirtual index, 3)) (kk : ∀ (H : Heap) (locs : List Loc), va_P g.2.2.1 vwCl (wL g mc mm) H → va_S (AA g s.heap.size) s.heap H locs → W p l e R s m args below meth c H locs 0 0 Q (F0 m (pc + 3) ls (.int q :: rest))) : W p l e R s m args below meth c H locs 0 0 Q (F0 m pc ls (.int v1 :: .ref (g.1 108) :: rest)) :=
  x_VI Z hP hS (kX10_isWell l g v1 mc mm q hq) (mO) (ci := 10) (by decide) rfl rfl mf_X10_isWell mv_X10_isWell hlk rfl rfl hsz hro hR hdg kk
theorem dX10_isSaying_0 : decode cX10_isSaying 0 = .ok (.iload_n 1, 1) := by decide +kernel
theorem dX10_isSaying_1 : decode cX10_isSaying 1 = .ok (.i2l, 1) := by decide +kernel
theorem dX10_isSaying_2 : decode cX10_isSaying 2 = .ok (.lconst 0, 1) := by decide +kernel
theorem dX10_isSaying_3 : decode cX10_isSaying 3 = .ok (.aload_n 0, 1) := by decide +kernel
theorem dX10_isSaying_4 : decode cX10_isSaying 4 = .ok (.getfield 134, 3) := by decide +kernel
theorem dX10_isSaying_7 : decode cX10_isSaying 7 = .ok (.iconst 1, 1) := by decide +kernel
theorem dX10_isSaying_8 : decode cX10_isSaying 8 = .ok (.isub, 1) := by decide +kernel
theorem dX10_isSaying_9 : decode cX10_isSaying 9 = .ok (.i2l, 1) := by decide +kernel
theorem dX10_isSaying_10 : decode cX10_isSaying 10 = .ok (.invokestatic 83, 3) := by decide +kernel
theorem dX10_isSaying_13 : decode cX10_isSaying 13 = .ok (.ireturn, 1) := by decide +kernel
noncomputable def F10_isSaying (v1 : Int32) (mm : Mem) : Option (Int32) :=
  ((F10_in v1.toInt64 (0 : Int64) (((mm 0 9) - (1 : Int32)).toInt64)).bind (fun q2 => (bz q2 (some q2))))
set_option maxHeartbeats 4000000 in
set_option maxRecDepth 100000 in
theorem kX10_isSaying (l : Launch) (g : GG) (v1 : Int32) (mc mm : Mem) (q : Int32) (hF : F10_isSaying v1 mm = some q) : KI l yX10_isSaying cX10_isSaying 2 .boolean 1 25 g [.ref (g.1 108), .int v1] mc mm q (mc, mm) := by
  intro sz
  refine x_start (Qc := fun z => QI g z q (mc, mm)) (by decide +kernel) (Nat.le_of_ble_eq_true rfl) ?_ sz
  intro p e s m args below meth c ls Z hr hlk hP hl
  have hx := Z.1.1
  have hb := Z.1.2.1
  have hown := Z.1.2.2.2.1
  have hts := Z.1.2.2.2.2
  have hS : va_S (AA g s.heap.size) s.heap s.heap [] := va_S.rf
  have hl : lv_has ls 2 [(0, .ref (g.1 108)), (1, .int v1)] := hl
  unfold F10_isSaying at hF
  refine lv_iload_n hx hb dX10_isSaying_0 rfl (lv_at hl 1 rfl) ?_
  refine lv_i2l (v := v1.toInt64) hx hb dX10_isSaying_1 rfl ?_
  refine lv_lconst (v := (0 : Int64)) hx hb dX10_isSaying_2 lc_0 ?_
  refine lv_aload_n hx hb dX10_isSaying_3 rfl (lv_at hl 0 rfl) ?_
  refine gf10_9 Z hP wd_15_5 dX10_isSaying_4 ?_
  refine lv_iconst (v := (1 : Int32)) hx hb dX10_isSaying_7 ic_1 ?_
  refine lv_isub hx hb dX10_isSaying_8 ?_
  refine lv_i2l (v := ((mm 0 9) - (1 : Int32)).toInt64) hx hb dX10_isSaying_9 rfl ?_
  obtain ⟨q2, hq2, hF⟩ := bd_ok hF
  refine xX10_in Z hP hS hq2 wd_13_8 hl.1 (Nat.le_of_ble_eq_true rfl) ⟨Nat.le_of_ble_eq_true rfl, Nat.le_of_ble_eq_true rfl⟩ dX10_isSaying_10 (fun H locs hP hS => ?_)
  obtain ⟨hbz, hF⟩ := bz_ok hF
  exact ret_Z Z hr hlk hP hS hbz hF dX10_isSaying_13
theorem xX10_isSaying {p : Program} {l : Launch} {e : Env} {R : Room} {s : State} {m : MethodId} {args : Array Value} {below : List Frame} {meth : Method} {c : Code} {H : Heap} {locs : List Loc} {Q : State → Prop} {cc : ByteArray} {nL : Nat} {own : String} {g : GG} {pc index : Nat} {ls : Array Slot} {rest : List Value} {mc mm : Mem} (Z : ZZ p s m args c cc nL own g) (hP : va_P g.2.2.1 vwCl (wL g mc mm) H) (hS : va_S (AA g s.heap.size) s.heap H locs) {v1 : Int32} {q : Int32} (hq : F10_isSaying v1 mm = some q) (hlk : Cond.methodLink own index yX10_isSaying ∈ wsL_law) (hsz : ls.size = nL) (hro : (rest.map fun v => v.category).sum ≤ 8) (hR : 1 + 1 ≤ R.frames ∧ 8 + (2 + 11) + 25 ≤ R.locals) (hdg : decode cc pc = .ok (.invokevirtual index, 3)) (kk : ∀ (H : Heap) (locs : List Loc), va_P g.2.2.1 vwCl (wL g mc mm) H → va_S (AA g s.heap.size) s.heap H locs → W p l e R s m args below meth c H locs 0 0 Q (F0 m (pc + 3) ls (.int q :: rest))) : W p l e R s m args below meth c H locs 0 0 Q (F0 m pc ls (.int v1 :: .ref (g.1 108) :: rest)) :=
  x_VI Z hP hS (kX10_isSaying l g v1 mc mm q hq) (mO) (ci := 10) (by decide) rfl rfl mf_X10_isSaying mv_X10_isSaying hlk rfl rfl hsz hro hR hdg kk
theorem dX10_isHour_0 : decode cX10_isHour 0 = .ok (.iload_n 0, 1) := by decide +kernel
theorem dX10_isHour_1 : decode cX10_isHour 1 = .ok (.i2l, 1) := by decide +kernel
theorem dX10_isHour_2 : decode cX10_isHour 2 = .ok (.lconst 0, 1) := by decide +kernel
theorem dX10_isHour_3 : decode cX10_isHour 3 = .ok (.ldc2_w 150, 3) := by decide +kernel
theorem dX10_isHour_6 : decode cX10_isHour 6 = .ok (.invokestatic 83, 3) := by decide +kernel
theorem dX10_isHour_9 : decode cX10_isHour 9 = .ok (.ireturn, 1) := by decide +kernel
noncomputable def F10_isHour (v0 : Int32) : Option (Int32) :=
  ((F10_in v0.toInt64 (0 : Int64) (39 : Int64)).bind (fun q2 => (bz q2 (some q2))))
set_option maxHeartbeats 4000000 in
set_option maxRecDepth 100000 in
theorem kX10_isHour (l : Launch) (g : GG) (v0 : Int32) (mc mm : Mem) (q : Int32) (hF : F10_isHour v0 = some q) : KI l yX10_isHour cX10_isHour 1 .boolean 1 25 g [.int v0] mc mm q (mc, mm) := by
  intro sz
  refine x_start (Qc := fun z => QI g z q (mc, mm)) (by decide +kernel) (Nat.le_of_ble_eq_true rfl) ?_ sz
  intro p e s m args below meth c ls Z hr hlk hP hl
  have hx := Z.1.1
  have hb := Z.1.2.1
  have hown := Z.1.2.2.2.1
  have hts := Z.1.2.2.2.2
  have hS : va_S (AA g s.heap.size) s.heap s.heap [] := va_S.rf
  have hl : lv_has ls 1 [(0, .int v0)] := hl
  unfold F10_isHour at hF
  refine lv_iload_n hx hb dX10_isHour_0 rfl (lv_at hl 0 rfl) ?_
  refine lv_i2l (v := v0.toInt64) hx hb dX10_isHour_1 rfl ?_
  refine lv_lconst (v := (0 : Int64)) hx hb dX10_isHour_2 lc_0 ?_
  refine lv_ldc2 (v := (39 : Int64)) hx hb hown (hts _ wd_18_8) dX10_isHour_3 ?_
  obtain ⟨q2, hq2, hF⟩ := bd_ok hF
  refine xX10_in Z hP hS hq2 wd_13_8 hl.1 (Nat.le_of_ble_eq_true rfl) ⟨Nat.le_of_ble_eq_true rfl, Nat.le_of_ble_eq_true rfl⟩ dX10_isHour_6 (fun H locs hP hS => ?_)
  obtain ⟨hbz, hF⟩ := bz_ok hF
  exact ret_Z Z hr hlk hP hS hbz hF dX10_isHour_9
theorem xX10_isHour {p : Program} {l : Launch} {e : Env} {R : Room} {s : State} {m : MethodId} {args : Array Value} {below : List Frame} {meth : Method} {c : Code} {H : Heap} {locs : List Loc} {Q : State → Prop} {cc : ByteArray} {nL : Nat} {own : String} {g : GG} {pc index : Nat} {ls : Array Slot} {rest : List Value} {mc mm : Mem} (Z : ZZ p s m args c cc nL own g) (hP : va_P g.2.2.1 vwCl (wL g mc mm) H) (hS : va_S (AA g s.heap.size) s.heap H locs) {v0 : Int32} {q : Int32} (hq : F10_isHour v0 = some q) (hlk : Cond.methodLink own index yX10_isHour ∈ wsL_law) (hsz : ls.size = nL) (hro : (rest.map fun v => v.category).sum ≤ 8) (hR : 1 + 1 ≤ R.frames ∧ 8 + (1 + 11) + 25 ≤ R.locals) (hdg : decode cc pc = .ok (.invokestatic index, 3)) (kk : ∀ (H : Heap) (locs : List Loc), va_P g.2.2.1 vwCl (wL g mc mm) H → va_S (AA g s.heap.size) s.heap H locs → W p l e R s m args below meth c H locs 0 0 Q (F0 m (pc + 3) ls (.int q :: rest))) : W p l e R s m args below meth c H locs 0 0 Q (F0 m pc ls (.int v0 :: rest)) :=
  x_SI Z hP hS (kX10_isHour l g v0 mc mm q hq) mf_X10_isHour wd_18_6 hlk rfl rfl hsz hro hR hdg kk
theorem dX10_isEight_0 : decode cX10_isEight 0 = .ok (.iload_n 0, 1) := by decide +kernel
theorem dX10_isEight_1 : decode cX10_isEight 1 = .ok (.i2l, 1) := by decide +kernel
theorem dX10_isEight_2 : decode cX10_isEight 2 = .ok (.lconst 0, 1) := by decide +kernel
theorem dX10_isEight_3 : decode cX10_isEight 3 = .ok (.ldc2_w 152, 3) := by decide +kernel
theorem dX10_isEight_6 : decode cX10_isEight 6 = .ok (.invokestatic 83, 3) := by decide +kernel
theorem dX10_isEight_9 : decode cX10_isEight 9 = .ok (.ireturn, 1) := by decide +kernel
noncomputable def F10_isEight (v0 : Int32) : Option (Int32) :=
  ((F10_in v0.toInt64 (0 : Int64) (7 : Int64)).bind (fun q2 => (bz q2 (some q2))))
set_option maxHeartbeats 4000000 in
set_option maxRecDepth 100000 in
theorem kX10_isEight (l : Launch) (g : GG) (v0 : Int32) (mc mm : Mem) (q : Int32) (hF : F10_isEight v0 = some q) : KI l yX10_isEight cX10_isEight 1 .boolean 1 25 g [.int v0] mc mm q (mc, mm) := by
  intro sz
  refine x_start (Qc := fun z => QI g z q (mc, mm)) (by decide +kernel) (Nat.le_of_ble_eq_true rfl) ?_ sz
  intro p e s m args below meth c ls Z hr hlk hP hl
  have hx := Z.1.1
  have hb := Z.1.2.1
  have hown := Z.1.2.2.2.1
  have hts := Z.1.2.2.2.2
  have hS : va_S (AA g s.heap.size) s.heap s.heap [] := va_S.rf
  have hl : lv_has ls 1 [(0, .int v0)] := hl
  unfold F10_isEight at hF
  refine lv_iload_n hx hb dX10_isEight_0 rfl (lv_at hl 0 rfl) ?_
  refine lv_i2l (v := v0.toInt64) hx hb dX10_isEight_1 rfl ?_
  refine lv_lconst (v := (0 : Int64)) hx hb dX10_isEight_2 lc_0 ?_
  refine lv_ldc2 (v := (7 : Int64)) hx hb hown (hts _ wd_17_2) dX10_isEight_3 ?_
  obtain ⟨q2, hq2, hF⟩ := bd_ok hF
  refine xX10_in Z hP hS hq2 wd_13_8 hl.1 (Nat.le_of_ble_eq_true rfl) ⟨Nat.le_of_ble_eq_true rfl, Nat.le_of_ble_eq_true rfl⟩ dX10_isEight_6 (fun H locs hP hS => ?_)
  obtain ⟨hbz, hF⟩ := bz_ok hF
  exact ret_Z Z hr hlk hP hS hbz hF dX10_isEight_9
theorem xX10_isEight {p : Program} {l : Launch} {e : Env} {R : Room} {s : State} {m : MethodId} {args : Array Value} {below : List Frame} {meth : Method} {c : Code} {H : Heap} {locs : List Loc} {Q : State → Prop} {cc : ByteArray} {nL : Nat} {own : String} {g : GG} {pc index : Nat} {ls : Array Slot} {rest : List Value} {mc mm : Mem} (Z : ZZ p s m args c cc nL own g) (hP : va_P g.2.2.1 vwCl (wL g mc mm) H) (hS : va_S (AA g s.heap.size) s.heap H locs) {v0 : Int32} {q : Int32} (hq : F10_isEight v0 = some q) (hlk : Cond.methodLink own index yX10_isEight ∈ wsL_law) (hsz : ls.size = nL) (hro : (rest.map fun v => v.category).sum ≤ 8) (hR : 1 + 1 ≤ R.frames ∧ 8 + (1 + 11) + 25 ≤ R.locals) (hdg : decode cc pc = .ok (.invokestatic index, 3)) (kk : ∀ (H : Heap) (locs : List Loc), va_P g.2.2.1 vwCl (wL g mc mm) H → va_S (AA g s.heap.size) s.heap H locs → W p l e R s m args below meth c H locs 0 0 Q (F0 m (pc + 3) ls (.int q :: rest))) : W p l e R s m args below meth c H locs 0 0 Q (F0 m pc ls (.int v0 :: rest)) :=
  x_SI Z hP hS (kX10_isEight l g v0 mc mm q hq) mf_X10_isEight wd_18_10 hlk rfl rfl hsz hro hR hdg kk
theorem dX10_down_0 : decode cX10_down 0 = .ok (.iconst (-1), 1) := by decide +kernel
theorem dX10_down_1 : decode cX10_down 1 = .ok (.istore_n 2, 1) := by decide +kernel
theorem dX10_down_2 : decode cX10_down 2 = .ok (.iconst 0, 1) := by decide +kernel
theorem dX10_down_3 : decode cX10_down 3 = .ok (.istore_n 3, 1) := by decide +kernel
theorem dX10_down_4 : decode cX10_down 4 = .ok (.iload_n 3, 1) := by decide +kernel
theorem dX10_down_5 : decode cX10_down 5 = .ok (.aload_n 0, 1) := by decide +kernel
theorem dX10_down_6 : decode cX10_down 6 = .ok (.getfield 120, 3) := by decide +kernel
theorem dX10_down_9 : decode cX10_down 9 = .ok (.if_icmp .ge 78, 3) := by decide +kernel
theorem dX10_down_12 : decode cX10_down 12 = .ok (.aload_n 0, 1) := by decide +kernel
theorem dX10_down_13 : decode cX10_down 13 = .ok (.getfield 28, 3) := by decide +kernel
theorem dX10_down_16 : decode cX10_down 16 = .ok (.iconst 2, 1) := by decide +kernel
theorem dX10_down_17 : decode cX10_down 17 = .ok (.iload_n 3, 1) := by decide +kernel
theorem dX10_down_18 : decode cX10_down 18 = .ok (.imul, 1) := by decide +kernel
theorem dX10_down_19 : decode cX10_down 19 = .ok (.iconst 1, 1) := by decide +kernel
theorem dX10_down_20 : decode cX10_down 20 = .ok (.iadd, 1) := by decide +kernel
theorem dX10_down_21 : decode cX10_down 21 = .ok (.iaload, 1) := by decide +kernel
theorem dX10_down_22 : decode cX10_down 22 = .ok (.aload_n 0, 1) := by decide +kernel
theorem dX10_down_23 : decode cX10_down 23 = .ok (.getfield 28, 3) := by decide +kernel
theorem dX10_down_26 : decode cX10_down 26 = .ok (.iconst 2, 1) := by decide +kernel
theorem dX10_down_27 : decode cX10_down 27 = .ok (.iload_n 1, 1) := by decide +kernel
theorem dX10_down_28 : decode cX10_down 28 = .ok (.imul, 1) := by decide +kernel
theorem dX10_down_29 : decode cX10_down 29 = .ok (.iconst 1, 1) := by decide +kernel
theorem dX10_down_30 : decode cX10_down 30 = .ok (.iadd, 1) := by decide +kernel
theorem dX10_down_31 : decode cX10_down 31 = .ok (.iaload, 1) := by decide +kernel
theorem dX10_down_32 : decode cX10_down 32 = .ok (.if_icmp .ge 7, 3) := by decide +kernel
theorem dX10_down_35 : decode cX10_down 35 = .ok (.iconst 1, 1) := by decide +kernel
theorem dX10_down_36 : decode cX10_down 36 = .ok (.goto 4, 3) := by decide +kernel
theorem dX10_down_39 : decode cX10_down 39 = .ok (.iconst 0, 1) := by decide +kernel
theorem dX10_down_40 : decode cX10_down 40 = .ok (.istore 4, 2) := by decide +kernel
theorem dX10_down_42 : decode cX10_down 42 = .ok (.iload 4, 2) := by decide +kernel
theorem dX10_down_44 : decode cX10_down 44 = .ok (.ifCond .eq 35, 3) := by decide +kernel
theorem dX10_down_47 : decode cX10_down 47 = .ok (.iload_n 2, 1) := by decide +kernel
theorem dX10_down_48 : decode cX10_down 48 = .ok (.iconst (-1), 1) := by decide +kernel
theorem dX10_down_49 : decode cX10_down 49 = .ok (.if_icmp .eq 26, 3) := by decide +kernel
theorem dX10_down_52 : decode cX10_down 52 = .ok (.aload_n 0, 1) := by decide +kernel
theorem dX10_down_53 : decode cX10_down 53 = .ok (.getfield 28, 3) := by decide +kernel
theorem dX10_down_56 : decode cX10_down 56 = .ok (.iconst 2, 1) := by decide +kernel
theorem dX10_down_57 : decode cX10_down 57 = .ok (.iload_n 3, 1) := by decide +kernel
theorem dX10_down_58 : decode cX10_down 58 = .ok (.imul, 1) := by decide +kernel
theorem dX10_down_59 : decode cX10_down 59 = .ok (.iconst 1, 1) := by decide +kernel
theorem dX10_down_60 : decode cX10_down 60 = .ok (.iadd, 1) := by decide +kernel
theorem dX10_down_61 : decode cX10_down 61 = .ok (.iaload, 1) := by decide +kernel
theorem dX10_down_62 : decode cX10_down 62 = .ok (.aload_n 0, 1) := by decide +kernel
theorem dX10_down_63 : decode cX10_down 63 = .ok (.getfield 28, 3) := by decide +kernel
theorem dX10_down_66 : decode cX10_down 66 = .ok (.iconst 2, 1) := by decide +kernel
theorem dX10_down_67 : decode cX10_down 67 = .ok (.iload_n 2, 1) := by decide +kernel
theorem dX10_down_68 : decode cX10_down 68 = .ok (.imul, 1) := by decide +kernel
theorem dX10_down_69 : decode cX10_down 69 = .ok (.iconst 1, 1) := by decide +kernel
theorem dX10_down_70 : decode cX10_down 70 = .ok (.iadd, 1) := by decide +kernel
theorem dX10_down_71 : decode cX10_down 71 = .ok (.iaload, 1) := by decide +kernel
theorem dX10_down_72 : decode cX10_down 72 = .ok (.if_icmp .le 7, 3) := by decide +kernel
theorem dX10_down_75 : decode cX10_down 75 = .ok (.iload_n 3, 1) := by decide +kernel
theorem dX10_down_76 : decode cX10_down 76 = .ok (.goto 4, 3) := by decide +kernel
theorem dX10_down_79 : decode cX10_down 79 = .ok (.iload_n 2, 1) := by decide +kernel
theorem dX10_down_80 : decode cX10_down 80 = .ok (.istore_n 2, 1) := by decide +kernel
theorem dX10_down_81 : decode cX10_down 81 = .ok (.iinc 3 1, 3) := by decide +kernel
theorem dX10_down_84 : decode cX10_down 84 = .ok (.goto (-80), 3) := by decide +kernel
theorem dX10_down_87 : decode cX10_down 87 = .ok (.iload_n 2, 1) := by decide +kernel
theorem dX10_down_88 : decode cX10_down 88 = .ok (.ireturn, 1) := by decide +kernel
noncomputable def F10_down_b80 (kh : Int32 → Int32 → Option (Int32)) (v1 : Int32) (mm : Mem) (a3 : Int32) (s0 : Int32) : Option (Int32) :=
  kh s0 (a3 + (1 : Int32))
noncomputable def F10_down_b79 (kh : Int32 → Int32 → Option (Int32)) (v1 : Int32) (mm : Mem) (a2 : Int32) (a3 : Int32) : Option (Int32) :=
  (F10_down_b80 kh v1 mm) a3 a2
noncomputable def F10_down_b75 (kh : Int32 → Int32 → Option (Int32)) (v1 : Int32) (mm : Mem) (a3 : Int32) : Option (Int32) :=
  (F10_down_b80 kh v1 mm) a3 a3
noncomputable def F10_down_b40 (kh : Int32 → Int32 → Option (Int32)) (v1 : Int32) (mm : Mem) (a2 : Int32) (a3 : Int32) (s0 : Int32) : Option (Int32) :=
  (if s0 = (0 : Int32) then (F10_down_b79 kh v1 mm) a2 a3 else (if a2 = (-1 : Int32) then (F10_down_b75 kh v1 mm) a3 else (ck (((2 : Int32) * a3) + (1 : Int32)) 16 (ck (((2 : Int32) * a2) + (1 : Int32)) 16 (if (mm 7 (((2 : Int32) * a3) + (1 : Int32)).toNatClampNeg) ≤ (mm 7 (((2 : Int32) * a2) + (1 : Int32)).toNatClampNeg) then (F10_down_b79 kh v1 mm) a2 a3 else (F10_down_b75 kh v1 mm) a3)))))
noncomputable def F10_down_p4 (kh : Int32 → Int32 → Option (Int32)) (v1 : Int32) (mm : Mem) (a2 : Int32) (a3 : Int32) : Option (Int32) :=
  (if (mm 0 7) ≤ a3 then some a2 else (ck (((2 : Int32) * a3) + (1 : Int32)) 16 (ck (((2 : Int32) * v1) + (1 : Int32)) 16 (if (mm 7 (((2 : Int32) * v1) + (1 : Int32)).toNatClampNeg) ≤ (mm 7 (((2 : Int32) * a3) + (1 : Int32)).toNatClampNeg) then (F10_down_b40 kh v1 mm) a2 a3 (0 : Int32) else (F10_down_b40 kh v1 mm) a2 a3 (1 : Int32)))))
noncomputable def F10_down_h4 (v1 : Int32) (mm : Mem) : Nat → Int32 → Int32 → Option (Int32)
  | 0, _, _ => none
  | n + 1, a2, a3 => F10_down_p4 (F10_down_h4 v1 mm n) v1 mm a2 a3
noncomputable def F10_down (v1 : Int32) (mm : Mem) : Option (Int32) :=
  (F10_down_h4 v1 mm FU) (-1 : Int32) (0 : Int32)
set_option maxHeartbeats 4000000 in
set_option maxRecDepth 100000 in
theorem kX10_down (l : Launch) (g : GG) (v1 : Int32) (mc mm : Mem) (q : Int32) (hF : F10_down v1 mm = some q) : KI l yX10_down cX10_down 5 .int 0 0 g [.ref (g.1 108), .int v1] mc mm q (mc, mm) := by
  intro sz
  refine x_start (Qc := fun z => QI g z q (mc, mm)) (by decide +kernel) (Nat.le_of_ble_eq_true rfl) ?_ sz
  intro p e s m args below meth c ls Z hr hlk hP hl
  have hx := Z.1.1
  have hb := Z.1.2.1
  have hown := Z.1.2.2.2.1
  have hts := Z.1.2.2.2.2
  have hS : va_S (AA g s.heap.size) s.heap s.heap [] := va_S.rf
  have hl : lv_has ls 5 [(0, .ref (g.1 108)), (1, .int v1)] := hl
  unfold F10_down at hF
  have hL4 : ∀ n : Nat, ∀ (a2 : Int32) (a3 : Int32), F10_down_h4 v1 mm n a2 a3 = some q → ∀ (H : Heap) (locs : List Loc) (ls : Array Slot), lv_has ls 5 [(0, .ref (g.1 108)), (1, .int v1), (2, .int a2), (3, .int a3)] → va_P g.2.2.1 vwCl (wL g mc mm) H → va_S (AA g s.heap.size) s.heap H locs → W p l e { frames := 0, cells := 0, slots := 0, locals := 0 } s m args below meth c H locs 0 0 (MQ below (QI g s.heap.size q (mc, mm)) args s 0 0 (AA g s.heap.size)) (F0 m 4 ls []) := by
    intro n
    induction n with
    | zero => intro a2 a3 hF H locs ls hl hP hS; exact absurd hF (fun z => nomatch (show (none : Option _) = some q from z))
    | succ n ih =>
      generalize hkh : F10_down_h4 v1 mm n = kh at ih
      have hb80 : ∀ (a3 : Int32) (s0 : Int32), F10_down_b80 kh v1 mm a3 s0 = some q → ∀ (H : Heap) (locs : List Loc) (ls : Array Slot), lv_has ls 5 [(0, .ref (g.1 108)), (1, .int v1), (3, .int a3)] → va_P g.2.2.1 vwCl (wL g mc mm) H → va_S (AA g s.heap.size) s.heap H locs → W p l e { frames := 0, cells := 0, slots := 0, locals := 0 } s m args below meth c H locs 0 0 (MQ below (QI g s.heap.size q (mc, mm)) args s 0 0 (AA g s.heap.size)) (F0 m 80 ls [.int s0]) := by
        intro a3 s0 hF H locs ls hl hP hS
        unfold F10_down_b80 at hF
        refine lv_istore_n (lv' := [(2, .int s0), (0, .ref (g.1 108)), (1, .int v1), (3, .int a3)]) hx hb dX10_down_80 rfl hl (Nat.le_of_ble_eq_true rfl) rfl (fun ls hl => ?_)
        refine lv_iinc (lv' := [(3, .int (a3 + (1 : Int32))), (2, .int s0), (0, .ref (g.1 108)), (1, .int v1)]) (v := (a3 + (1 : Int32))) hx hb dX10_down_81 hl (k := 3) rfl (io_1 _) (Nat.le_of_ble_eq_true rfl) rfl (fun ls hl => ?_)
        refine lv_goto (tgt := 4) hx hb dX10_down_84 rfl ?_
        exact ih _ _ hF _ _ _ (lv_sub hl [2, 3, 1, 0] rfl) hP hS
      have hb79 : ∀ (a2 : Int32) (a3 : Int32), F10_down_b79 kh v1 mm a2 a3 = some q → ∀ (H : Heap) (locs : List Loc) (ls : Array Slot), lv_has ls 5 [(0, .ref (g.1 108)), (1, .int v1), (2, .int a2), (3, .int a3)] → va_P g.2.2.1 vwCl (wL g mc mm) H → va_S (AA g s.heap.size) s.heap H locs → W p l e { frames := 0, cells := 0, slots := 0, locals := 0 } s m args below meth c H locs 0 0 (MQ below (QI g s.heap.size q (mc, mm)) args s 0 0 (AA g s.heap.size)) (F0 m 79 ls []) := by
        intro a2 a3 hF H locs ls hl hP hS
        unfold F10_down_b79 at hF
        refine lv_iload_n hx hb dX10_down_79 rfl (lv_at hl 2 rfl) ?_
        exact hb80 _ _ hF _ _ _ (lv_sub hl [0, 1, 3] rfl) hP hS
      have hb75 : ∀ (a3 : Int32), F10_down_b75 kh v1 mm a3 = some q → ∀ (H : Heap) (locs : List Loc) (ls : Array Slot), lv_has ls 5 [(0, .ref (g.1 108)), (1, .int v1), (3, .int a3)] → va_P g.2.2.1 vwCl (wL g mc mm) H → va_S (AA g s.heap.size) s.heap H locs → W p l e { frames := 0, cells := 0, slots := 0, locals := 0 } s m args below meth c H locs 0 0 (MQ below (QI g s.heap.size q (mc, mm)) args s 0 0 (AA g s.heap.size)) (F0 m 75 ls []) := by
        intro a3 hF H locs ls hl hP hS
        unfold F10_down_b75 at hF
        refine lv_iload_n hx hb dX10_down_75 rfl (lv_at hl 2 rfl) ?_
        refine lv_goto (tgt := 80) hx hb dX10_down_76 rfl ?_
        exact hb80 _ _ hF _ _ _ (lv_sub hl [0, 1, 2] rfl) hP hS
      have hb40 : ∀ (a2 : Int32) (a3 : Int32) (s0 : Int32), F10_down_b40 kh v1 mm a2 a3 s0 = some q → ∀ (H : Heap) (locs : List Loc) (ls : Array Slot), lv_has ls 5 [(0, .ref (g.1 108)), (1, .int v1), (2, .int a2), (3, .int a3)] → va_P g.2.2.1 vwCl (wL g mc mm) H → va_S (AA g s.heap.size) s.heap H locs → W p l e { frames := 0, cells := 0, slots := 0, locals := 0 } s m args below meth c H locs 0 0 (MQ below (QI g s.heap.size q (mc, mm)) args s 0 0 (AA g s.heap.size)) (F0 m 40 ls [.int s0]) := by
        intro a2 a3 s0 hF H locs ls hl hP hS
        unfold F10_down_b40 at hF
        refine lv_istore (lv' := [(4, .int s0), (0, .ref (g.1 108)), (1, .int v1), (2, .int a2), (3, .int a3)]) hx hb dX10_down_40 hl (Nat.le_of_ble_eq_true rfl) rfl (fun ls hl => ?_)
        refine lv_iload hx hb dX10_down_42 (lv_at hl 0 rfl) ?_
        refine lv_if_eq (tgt := 79) hx hb dX10_down_44 rfl (fun hc => ?_) (fun hc => ?_)
        · have hF := (if_pos hc).symm.trans hF
          exact hb79 _ _ hF _ _ _ (lv_sub hl [1, 2, 3, 4] rfl) hP hS
        · have hF := (if_neg hc).symm.trans hF
          refine lv_iload_n hx hb dX10_down_47 rfl (lv_at hl 3 rfl) ?_
          refine lv_iconst (v := (-1 : Int32)) hx hb dX10_down_48 ic_m1 ?_
          refine lv_icmp_eq (tgt := 75) hx hb dX10_down_49 rfl (fun hc => ?_) (fun hc => ?_)
          · have hF := (if_pos hc).symm.trans hF
            exact hb75 _ hF _ _ _ (lv_sub hl [1, 2, 4] rfl) hP hS
          · have hF := (if_neg hc).symm.trans hF
            refine lv_aload_n hx hb dX10_down_52 rfl (lv_at hl 1 rfl) ?_
            refine gf10_8 Z hP wd_6_10 dX10_down_53 ?_
            refine lv_iconst (v := (2 : Int32)) hx hb dX10_down_56 ic_2 ?_
            refine lv_iload_n hx hb dX10_down_57 rfl (lv_at hl 4 rfl) ?_
            refine lv_imul hx hb dX10_down_58 ?_
            refine lv_iconst (v := (1 : Int32)) hx hb dX10_down_59 ic_1 ?_
            refine lv_iadd hx hb dX10_down_60 ?_
            obtain ⟨hi5, hF⟩ := ck_ok hF
            refine rM_ld Z hP 16 7 (by decide +kernel) hi5 dX10_down_61 ?_
            refine lv_aload_n hx hb dX10_down_62 rfl (lv_at hl 1 rfl) ?_
            refine gf10_8 Z hP wd_6_10 dX10_down_63 ?_
            refine lv_iconst (v := (2 : Int32)) hx hb dX10_down_66 ic_2 ?_
            refine lv_iload_n hx hb dX10_down_67 rfl (lv_at hl 3 rfl) ?_
            refine lv_imul hx hb dX10_down_68 ?_
            refine lv_iconst (v := (1 : Int32)) hx hb dX10_down_69 ic_1 ?_
            refine lv_iadd hx hb dX10_down_70 ?_
            obtain ⟨hi6, hF⟩ := ck_ok hF
            refine rM_ld Z hP 16 7 (by decide +kernel) hi6 dX10_down_71 ?_
            refine lv_icmp_le (tgt := 79) hx hb dX10_down_72 rfl (fun hc => ?_) (fun hc => ?_)
            · have hF := (if_pos hc).symm.trans hF
              exact hb79 _ _ hF _ _ _ (lv_sub hl [1, 2, 3, 4] rfl) hP hS
            · have hF := (if_neg hc).symm.trans hF
              exact hb75 _ hF _ _ _ (lv_sub hl [1, 2, 4] rfl) hP hS
      intro a2 a3 hF H locs ls hl hP hS
      have hF : F10_down_p4 (F10_down_h4 v1 mm n) v1 mm a2 a3 = some q := hF
      rw [hkh] at hF
      unfold F10_down_p4 at hF
      refine lv_iload_n hx hb dX10_down_4 rfl (lv_at hl 3 rfl) ?_
      refine lv_aload_n hx hb dX10_down_5 rfl (lv_at hl 0 rfl) ?_
      refine gf10_7 Z hP wd_14_19 dX10_down_6 ?_
      refine lv_icmp_ge (tgt := 87) hx hb dX10_down_9 rfl (fun hc => ?_) (fun hc => ?_)
      · have hF := (if_pos hc).symm.trans hF
        refine lv_iload_n hx hb dX10_down_87 rfl (lv_at hl 2 rfl) ?_
        exact ret_I Z hr hlk hP hS hF dX10_down_88
      · have hF := (if_neg hc).symm.trans hF
        refine lv_aload_n hx hb dX10_down_12 rfl (lv_at hl 0 rfl) ?_
        refine gf10_8 Z hP wd_6_10 dX10_down_13 ?_
        refine lv_iconst (v := (2 : Int32)) hx hb dX10_down_16 ic_2 ?_
        refine lv_iload_n hx hb dX10_down_17 rfl (lv_at hl 3 rfl) ?_
        refine lv_imul hx hb dX10_down_18 ?_
        refine lv_iconst (v := (1 : Int32)) hx hb dX10_down_19 ic_1 ?_
        refine lv_iadd hx hb dX10_down_20 ?_
        obtain ⟨hi7, hF⟩ := ck_ok hF
        refine rM_ld Z hP 16 7 (by decide +kernel) hi7 dX10_down_21 ?_
        refine lv_aload_n hx hb dX10_down_22 rfl (lv_at hl 0 rfl) ?_
        refine gf10_8 Z hP wd_6_10 dX10_down_23 ?_
        refine lv_iconst (v := (2 : Int32)) hx hb dX10_down_26 ic_2 ?_
        refine lv_iload_n hx hb dX10_down_27 rfl (lv_at hl 1 rfl) ?_
        refine lv_imul hx hb dX10_down_28 ?_
        refine lv_iconst (v := (1 : Int32)) hx hb dX10_down_29 ic_1 ?_
        refine lv_iadd hx hb dX10_down_30 ?_
        obtain ⟨hi8, hF⟩ := ck_ok hF
        refine rM_ld Z hP 16 7 (by decide +kernel) hi8 dX10_down_31 ?_
        refine lv_icmp_ge (tgt := 39) hx hb dX10_down_32 rfl (fun hc => ?_) (fun hc => ?_)
        · have hF := (if_pos hc).symm.trans hF
          refine lv_iconst (v := (0 : Int32)) hx hb dX10_down_39 ic_0 ?_
          exact hb40 _ _ _ hF _ _ _ (lv_sub hl [0, 1, 2, 3] rfl) hP hS
        · have hF := (if_neg hc).symm.trans hF
          refine lv_iconst (v := (1 : Int32)) hx hb dX10_down_35 ic_1 ?_
          refine lv_goto (tgt := 40) hx hb dX10_down_36 rfl ?_
          exact hb40 _ _ _ hF _ _ _ (lv_sub hl [0, 1, 2, 3] rfl) hP hS
  refine lv_iconst (v := (-1 : Int32)) hx hb dX10_down_0 ic_m1 ?_
  refine lv_istore_n (lv' := [(2, .int (-1 : Int32)), (0, .ref (g.1 108)), (1, .int v1)]) hx hb dX10_down_1 rfl hl (Nat.le_of_ble_eq_true rfl) rfl (fun ls hl => ?_)
  refine lv_iconst (v := (0 : Int32)) hx hb dX10_down_2 ic_0 ?_
  refine lv_istore_n (lv' := [(3, .int (0 : Int32)), (2, .int (-1 : Int32)), (0, .ref (g.1 108)), (1, .int v1)]) hx hb dX10_down_3 rfl hl (Nat.le_of_ble_eq_true rfl) rfl (fun ls hl => ?_)
  exact (hL4 FU) _ _ hF _ _ _ (lv_sub hl [2, 3, 1, 0] rfl) hP hS
theorem xX10_down {p : Program} {l : Launch} {e : Env} {R : Room} {s : State} {m : MethodId} {args : Array Value} {below : List Frame} {meth : Method} {c : Code} {H : Heap} {locs : List Loc} {Q : State → Prop} {cc : ByteArray} {nL : Nat} {own : String} {g : GG} {pc index : Nat} {ls : Array Slot} {rest : List Value} {mc mm : Mem} (Z : ZZ p s m args c cc nL own g) (hP : va_P g.2.2.1 vwCl (wL g mc mm) H) (hS : va_S (AA g s.heap.size) s.heap H locs) {v1 : Int32} {q : Int32} (hq : F10_down v1 mm = some q) (hlk : Cond.methodLink own index yX10_down ∈ wsL_law) (hsz : ls.size = nL) (hro : (rest.map fun v => v.category).sum ≤ 8) (hR : 0 + 1 ≤ R.frames ∧ 8 + (5 + 11) + 0 ≤ R.locals) (hdg : decode cc pc = .ok (.invokevirtual index, 3)) (kk : ∀ (H : Heap) (locs : List Loc), va_P g.2.2.1 vwCl (wL g mc mm) H → va_S (AA g s.heap.size) s.heap H locs → W p l e R s m args below meth c H locs 0 0 Q (F0 m (pc + 3) ls (.int q :: rest))) : W p l e R s m args below meth c H locs 0 0 Q (F0 m pc ls (.int v1 :: .ref (g.1 108) :: rest)) :=
  x_VI Z hP hS (kX10_down l g v1 mc mm q hq) (mO) (ci := 10) (by decide) rfl rfl mf_X10_down mv_X10_down hlk rfl rfl hsz hro hR hdg kk
theorem dX10_up_0 : decode cX10_up 0 = .ok (.iconst (-1), 1) := by decide +kernel
theorem dX10_up_1 : decode cX10_up 1 = .ok (.istore_n 2, 1) := by decide +kernel
theorem dX10_up_2 : decode cX10_up 2 = .ok (.iconst 0, 1) := by decide +kernel
theorem dX10_up_3 : decode cX10_up 3 = .ok (.istore_n 3, 1) := by decide +kernel
theorem dX10_up_4 : decode cX10_up 4 = .ok (.iload_n 3, 1) := by decide +kernel
theorem dX10_up_5 : decode cX10_up 5 = .ok (.aload_n 0, 1) := by decide +kernel
theorem dX10_up_6 : decode cX10_up 6 = .ok (.getfield 120, 3) := by decide +kernel
theorem dX10_up_9 : decode cX10_up 9 = .ok (.if_icmp .ge 78, 3) := by decide +kernel
theorem dX10_up_12 : decode cX10_up 12 = .ok (.aload_n 0, 1) := by decide +kernel
theorem dX10_up_13 : decode cX10_up 13 = .ok (.getfield 28, 3) := by decide +kernel
theorem dX10_up_16 : decode cX10_up 16 = .ok (.iconst 2, 1) := by decide +kernel
theorem dX10_up_17 : decode cX10_up 17 = .ok (.iload_n 3, 1) := by decide +kernel
theorem dX10_up_18 : decode cX10_up 18 = .ok (.imul, 1) := by decide +kernel
theorem dX10_up_19 : decode cX10_up 19 = .ok (.iconst 1, 1) := by decide +kernel
theorem dX10_up_20 : decode cX10_up 20 = .ok (.iadd, 1) := by decide +kernel
theorem dX10_up_21 : decode cX10_up 21 = .ok (.iaload, 1) := by decide +kernel
theorem dX10_up_22 : decode cX10_up 22 = .ok (.aload_n 0, 1) := by decide +kernel
theorem dX10_up_23 : decode cX10_up 23 = .ok (.getfield 28, 3) := by decide +kernel
theorem dX10_up_26 : decode cX10_up 26 = .ok (.iconst 2, 1) := by decide +kernel
theorem dX10_up_27 : decode cX10_up 27 = .ok (.iload_n 1, 1) := by decide +kernel
theorem dX10_up_28 : decode cX10_up 28 = .ok (.imul, 1) := by decide +kernel
theorem dX10_up_29 : decode cX10_up 29 = .ok (.iconst 1, 1) := by decide +kernel
theorem dX10_up_30 : decode cX10_up 30 = .ok (.iadd, 1) := by decide +kernel
theorem dX10_up_31 : decode cX10_up 31 = .ok (.iaload, 1) := by decide +kernel
theorem dX10_up_32 : decode cX10_up 32 = .ok (.if_icmp .le 7, 3) := by decide +kernel
theorem dX10_up_35 : decode cX10_up 35 = .ok (.iconst 1, 1) := by decide +kernel
theorem dX10_up_36 : decode cX10_up 36 = .ok (.goto 4, 3) := by decide +kernel
theorem dX10_up_39 : decode cX10_up 39 = .ok (.iconst 0, 1) := by decide +kernel
theorem dX10_up_40 : decode cX10_up 40 = .ok (.istore 4, 2) := by decide +kernel
theorem dX10_up_42 : decode cX10_up 42 = .ok (.iload 4, 2) := by decide +kernel
theorem dX10_up_44 : decode cX10_up 44 = .ok (.ifCond .eq 35, 3) := by decide +kernel
theorem dX10_up_47 : decode cX10_up 47 = .ok (.iload_n 2, 1) := by decide +kernel
theorem dX10_up_48 : decode cX10_up 48 = .ok (.iconst (-1), 1) := by decide +kernel
theorem dX10_up_49 : decode cX10_up 49 = .ok (.if_icmp .eq 26, 3) := by decide +kernel
theorem dX10_up_52 : decode cX10_up 52 = .ok (.aload_n 0, 1) := by decide +kernel
theorem dX10_up_53 : decode cX10_up 53 = .ok (.getfield 28, 3) := by decide +kernel
theorem dX10_up_56 : decode cX10_up 56 = .ok (.iconst 2, 1) := by decide +kernel
theorem dX10_up_57 : decode cX10_up 57 = .ok (.iload_n 3, 1) := by decide +kernel
theorem dX10_up_58 : decode cX10_up 58 = .ok (.imul, 1) := by decide +kernel
theorem dX10_up_59 : decode cX10_up 59 = .ok (.iconst 1, 1) := by decide +kernel
theorem dX10_up_60 : decode cX10_up 60 = .ok (.iadd, 1) := by decide +kernel
theorem dX10_up_61 : decode cX10_up 61 = .ok (.iaload, 1) := by decide +kernel
theorem dX10_up_62 : decode cX10_up 62 = .ok (.aload_n 0, 1) := by decide +kernel
theorem dX10_up_63 : decode cX10_up 63 = .ok (.getfield 28, 3) := by decide +kernel
theorem dX10_up_66 : decode cX10_up 66 = .ok (.iconst 2, 1) := by decide +kernel
theorem dX10_up_67 : decode cX10_up 67 = .ok (.iload_n 2, 1) := by decide +kernel
theorem dX10_up_68 : decode cX10_up 68 = .ok (.imul, 1) := by decide +kernel
theorem dX10_up_69 : decode cX10_up 69 = .ok (.iconst 1, 1) := by decide +kernel
theorem dX10_up_70 : decode cX10_up 70 = .ok (.iadd, 1) := by decide +kernel
theorem dX10_up_71 : decode cX10_up 71 = .ok (.iaload, 1) := by decide +kernel
theorem dX10_up_72 : decode cX10_up 72 = .ok (.if_icmp .ge 7, 3) := by decide +kernel
theorem dX10_up_75 : decode cX10_up 75 = .ok (.iload_n 3, 1) := by decide +kernel
theorem dX10_up_76 : decode cX10_up 76 = .ok (.goto 4, 3) := by decide +kernel
theorem dX10_up_79 : decode cX10_up 79 = .ok (.iload_n 2, 1) := by decide +kernel
theorem dX10_up_80 : decode cX10_up 80 = .ok (.istore_n 2, 1) := by decide +kernel
theorem dX10_up_81 : decode cX10_up 81 = .ok (.iinc 3 1, 3) := by decide +kernel
theorem dX10_up_84 : decode cX10_up 84 = .ok (.goto (-80), 3) := by decide +kernel
theorem dX10_up_87 : decode cX10_up 87 = .ok (.iload_n 2, 1) := by decide +kernel
theorem dX10_up_88 : decode cX10_up 88 = .ok (.ireturn, 1) := by decide +kernel
noncomputable def F10_up_b80 (kh : Int32 → Int32 → Option (Int32)) (v1 : Int32) (mm : Mem) (a3 : Int32) (s0 : Int32) : Option (Int32) :=
  kh s0 (a3 + (1 : Int32))
noncomputable def F10_up_b79 (kh : Int32 → Int32 → Option (Int32)) (v1 : Int32) (mm : Mem) (a2 : Int32) (a3 : Int32) : Option (Int32) :=
  (F10_up_b80 kh v1 mm) a3 a2
noncomputable def F10_up_b75 (kh : Int32 → Int32 → Option (Int32)) (v1 : Int32) (mm : Mem) (a3 : Int32) : Option (Int32) :=
  (F10_up_b80 kh v1 mm) a3 a3
noncomputable def F10_up_b40 (kh : Int32 → Int32 → Option (Int32)) (v1 : Int32) (mm : Mem) (a2 : Int32) (a3 : Int32) (s0 : Int32) : Option (Int32) :=
  (if s0 = (0 : Int32) then (F10_up_b79 kh v1 mm) a2 a3 else (if a2 = (-1 : Int32) then (F10_up_b75 kh v1 mm) a3 else (ck (((2 : Int32) * a3) + (1 : Int32)) 16 (ck (((2 : Int32) * a2) + (1 : Int32)) 16 (if (mm 7 (((2 : Int32) * a2) + (1 : Int32)).toNatClampNeg) ≤ (mm 7 (((2 : Int32) * a3) + (1 : Int32)).toNatClampNeg) then (F10_up_b79 kh v1 mm) a2 a3 else (F10_up_b75 kh v1 mm) a3)))))
noncomputable def F10_up_p4 (kh : Int32 → Int32 → Option (Int32)) (v1 : Int32) (mm : Mem) (a2 : Int32) (a3 : Int32) : Option (Int32) :=
  (if (mm 0 7) ≤ a3 then some a2 else (ck (((2 : Int32) * a3) + (1 : Int32)) 16 (ck (((2 : Int32) * v1) + (1 : Int32)) 16 (if (mm 7 (((2 : Int32) * a3) + (1 : Int32)).toNatClampNeg) ≤ (mm 7 (((2 : Int32) * v1) + (1 : Int32)).toNatClampNeg) then (F10_up_b40 kh v1 mm) a2 a3 (0 : Int32) else (F10_up_b40 kh v1 mm) a2 a3 (1 : Int32)))))
noncomputable def F10_up_h4 (v1 : Int32) (mm : Mem) : Nat → Int32 → Int32 → Option (Int32)
  | 0, _, _ => none
  | n + 1, a2, a3 => F10_up_p4 (F10_up_h4 v1 mm n) v1 mm a2 a3
noncomputable def F10_up (v1 : Int32) (mm : Mem) : Option (Int32) :=
  (F10_up_h4 v1 mm FU) (-1 : Int32) (0 : Int32)
set_option maxHeartbeats 4000000 in
set_option maxRecDepth 100000 in
theorem kX10_up (l : Launch) (g : GG) (v1 : Int32) (mc mm : Mem) (q : Int32) (hF : F10_up v1 mm = some q) : KI l yX10_up cX10_up 5 .int 0 0 g [.ref (g.1 108), .int v1] mc mm q (mc, mm) := by
  intro sz
  refine x_start (Qc := fun z => QI g z q (mc, mm)) (by decide +kernel) (Nat.le_of_ble_eq_true rfl) ?_ sz
  intro p e s m args below meth c ls Z hr hlk hP hl
  have hx := Z.1.1
  have hb := Z.1.2.1
  have hown := Z.1.2.2.2.1
  have hts := Z.1.2.2.2.2
  have hS : va_S (AA g s.heap.size) s.heap s.heap [] := va_S.rf
  have hl : lv_has ls 5 [(0, .ref (g.1 108)), (1, .int v1)] := hl
  unfold F10_up at hF
  have hL4 : ∀ n : Nat, ∀ (a2 : Int32) (a3 : Int32), F10_up_h4 v1 mm n a2 a3 = some q → ∀ (H : Heap) (locs : List Loc) (ls : Array Slot), lv_has ls 5 [(0, .ref (g.1 108)), (1, .int v1), (2, .int a2), (3, .int a3)] → va_P g.2.2.1 vwCl (wL g mc mm) H → va_S (AA g s.heap.size) s.heap H locs → W p l e { frames := 0, cells := 0, slots := 0, locals := 0 } s m args below meth c H locs 0 0 (MQ below (QI g s.heap.size q (mc, mm)) args s 0 0 (AA g s.heap.size)) (F0 m 4 ls []) := by
    intro n
    induction n with
    | zero => intro a2 a3 hF H locs ls hl hP hS; exact absurd hF (fun z => nomatch (show (none : Option _) = some q from z))
    | succ n ih =>
      generalize hkh : F10_up_h4 v1 mm n = kh at ih
      have hb80 : ∀ (a3 : Int32) (s0 : Int32), F10_up_b80 kh v1 mm a3 s0 = some q → ∀ (H : Heap) (locs : List Loc) (ls : Array Slot), lv_has ls 5 [(0, .ref (g.1 108)), (1, .int v1), (3, .int a3)] → va_P g.2.2.1 vwCl (wL g mc mm) H → va_S (AA g s.heap.size) s.heap H locs → W p l e { frames := 0, cells := 0, slots := 0, locals := 0 } s m args below meth c H locs 0 0 (MQ below (QI g s.heap.size q (mc, mm)) args s 0 0 (AA g s.heap.size)) (F0 m 80 ls [.int s0]) := by
        intro a3 s0 hF H locs ls hl hP hS
        unfold F10_up_b80 at hF
        refine lv_istore_n (lv' := [(2, .int s0), (0, .ref (g.1 108)), (1, .int v1), (3, .int a3)]) hx hb dX10_up_80 rfl hl (Nat.le_of_ble_eq_true rfl) rfl (fun ls hl => ?_)
        refine lv_iinc (lv' := [(3, .int (a3 + (1 : Int32))), (2, .int s0), (0, .ref (g.1 108)), (1, .int v1)]) (v := (a3 + (1 : Int32))) hx hb dX10_up_81 hl (k := 3) rfl (io_1 _) (Nat.le_of_ble_eq_true rfl) rfl (fun ls hl => ?_)
        refine lv_goto (tgt := 4) hx hb dX10_up_84 rfl ?_
        exact ih _ _ hF _ _ _ (lv_sub hl [2, 3, 1, 0] rfl) hP hS
      have hb79 : ∀ (a2 : Int32) (a3 : Int32), F10_up_b79 kh v1 mm a2 a3 = some q → ∀ (H : Heap) (locs : List Loc) (ls : Array Slot), lv_has ls 5 [(0, .ref (g.1 108)), (1, .int v1), (2, .int a2), (3, .int a3)] → va_P g.2.2.1 vwCl (wL g mc mm) H → va_S (AA g s.heap.size) s.heap H locs → W p l e { frames := 0, cells := 0, slots := 0, locals := 0 } s m args below meth c H locs 0 0 (MQ below (QI g s.heap.size q (mc, mm)) args s 0 0 (AA g s.heap.size)) (F0 m 79 ls []) := by
        intro a2 a3 hF H locs ls hl hP hS
        unfold F10_up_b79 at hF
        refine lv_iload_n hx hb dX10_up_79 rfl (lv_at hl 2 rfl) ?_
        exact hb80 _ _ hF _ _ _ (lv_sub hl [0, 1, 3] rfl) hP hS
      have hb75 : ∀ (a3 : Int32), F10_up_b75 kh v1 mm a3 = some q → ∀ (H : Heap) (locs : List Loc) (ls : Array Slot), lv_has ls 5 [(0, .ref (g.1 108)), (1, .int v1), (3, .int a3)] → va_P g.2.2.1 vwCl (wL g mc mm) H → va_S (AA g s.heap.size) s.heap H locs → W p l e { frames := 0, cells := 0, slots := 0, locals := 0 } s m args below meth c H locs 0 0 (MQ below (QI g s.heap.size q (mc, mm)) args s 0 0 (AA g s.heap.size)) (F0 m 75 ls []) := by
        intro a3 hF H locs ls hl hP hS
        unfold F10_up_b75 at hF
        refine lv_iload_n hx hb dX10_up_75 rfl (lv_at hl 2 rfl) ?_
        refine lv_goto (tgt := 80) hx hb dX10_up_76 rfl ?_
        exact hb80 _ _ hF _ _ _ (lv_sub hl [0, 1, 2] rfl) hP hS
      have hb40 : ∀ (a2 : Int32) (a3 : Int32) (s0 : Int32), F10_up_b40 kh v1 mm a2 a3 s0 = some q → ∀ (H : Heap) (locs : List Loc) (ls : Array Slot), lv_has ls 5 [(0, .ref (g.1 108)), (1, .int v1), (2, .int a2), (3, .int a3)] → va_P g.2.2.1 vwCl (wL g mc mm) H → va_S (AA g s.heap.size) s.heap H locs → W p l e { frames := 0, cells := 0, slots := 0, locals := 0 } s m args below meth c H locs 0 0 (MQ below (QI g s.heap.size q (mc, mm)) args s 0 0 (AA g s.heap.size)) (F0 m 40 ls [.int s0]) := by
        intro a2 a3 s0 hF H locs ls hl hP hS
        unfold F10_up_b40 at hF
        refine lv_istore (lv' := [(4, .int s0), (0, .ref (g.1 108)), (1, .int v1), (2, .int a2), (3, .int a3)]) hx hb dX10_up_40 hl (Nat.le_of_ble_eq_true rfl) rfl (fun ls hl => ?_)
        refine lv_iload hx hb dX10_up_42 (lv_at hl 0 rfl) ?_
        refine lv_if_eq (tgt := 79) hx hb dX10_up_44 rfl (fun hc => ?_) (fun hc => ?_)
        · have hF := (if_pos hc).symm.trans hF
          exact hb79 _ _ hF _ _ _ (lv_sub hl [1, 2, 3, 4] rfl) hP hS
        · have hF := (if_neg hc).symm.trans hF
          refine lv_iload_n hx hb dX10_up_47 rfl (lv_at hl 3 rfl) ?_
          refine lv_iconst (v := (-1 : Int32)) hx hb dX10_up_48 ic_m1 ?_
          refine lv_icmp_eq (tgt := 75) hx hb dX10_up_49 rfl (fun hc => ?_) (fun hc => ?_)
          · have hF := (if_pos hc).symm.trans hF
            exact hb75 _ hF _ _ _ (lv_sub hl [1, 2, 4] rfl) hP hS
          · have hF := (if_neg hc).symm.trans hF
            refine lv_aload_n hx hb dX10_up_52 rfl (lv_at hl 1 rfl) ?_
            refine gf10_8 Z hP wd_6_10 dX10_up_53 ?_
            refine lv_iconst (v := (2 : Int32)) hx hb dX10_up_56 ic_2 ?_
            refine lv_iload_n hx hb dX10_up_57 rfl (lv_at hl 4 rfl) ?_
            refine lv_imul hx hb dX10_up_58 ?_
            refine lv_iconst (v := (1 : Int32)) hx hb dX10_up_59 ic_1 ?_
            refine lv_iadd hx hb dX10_up_60 ?_
            obtain ⟨hi5, hF⟩ := ck_ok hF
            refine rM_ld Z hP 16 7 (by decide +kernel) hi5 dX10_up_61 ?_
            refine lv_aload_n hx hb dX10_up_62 rfl (lv_at hl 1 rfl) ?_
            refine gf10_8 Z hP wd_6_10 dX10_up_63 ?_
            refine lv_iconst (v := (2 : Int32)) hx hb dX10_up_66 ic_2 ?_
            refine lv_iload_n hx hb dX10_up_67 rfl (lv_at hl 3 rfl) ?_
            refine lv_imul hx hb dX10_up_68 ?_
            refine lv_iconst (v := (1 : Int32)) hx hb dX10_up_69 ic_1 ?_
            refine lv_iadd hx hb dX10_up_70 ?_
            obtain ⟨hi6, hF⟩ := ck_ok hF
            refine rM_ld Z hP 16 7 (by decide +kernel) hi6 dX10_up_71 ?_
            refine lv_icmp_ge (tgt := 79) hx hb dX10_up_72 rfl (fun hc => ?_) (fun hc => ?_)
            · have hF := (if_pos hc).symm.trans hF
              exact hb79 _ _ hF _ _ _ (lv_sub hl [1, 2, 3, 4] rfl) hP hS
            · have hF := (if_neg hc).symm.trans hF
              exact hb75 _ hF _ _ _ (lv_sub hl [1, 2, 4] rfl) hP hS
      intro a2 a3 hF H locs ls hl hP hS
      have hF : F10_up_p4 (F10_up_h4 v1 mm n) v1 mm a2 a3 = some q := hF
      rw [hkh] at hF
      unfold F10_up_p4 at hF
      refine lv_iload_n hx hb dX10_up_4 rfl (lv_at hl 3 rfl) ?_
      refine lv_aload_n hx hb dX10_up_5 rfl (lv_at hl 0 rfl) ?_
      refine gf10_7 Z hP wd_14_19 dX10_up_6 ?_
      refine lv_icmp_ge (tgt := 87) hx hb dX10_up_9 rfl (fun hc => ?_) (fun hc => ?_)
      · have hF := (if_pos hc).symm.trans hF
        refine lv_iload_n hx hb dX10_up_87 rfl (lv_at hl 2 rfl) ?_
        exact ret_I Z hr hlk hP hS hF dX10_up_88
      · have hF := (if_neg hc).symm.trans hF
        refine lv_aload_n hx hb dX10_up_12 rfl (lv_at hl 0 rfl) ?_
        refine gf10_8 Z hP wd_6_10 dX10_up_13 ?_
        refine lv_iconst (v := (2 : Int32)) hx hb dX10_up_16 ic_2 ?_
        refine lv_iload_n hx hb dX10_up_17 rfl (lv_at hl 3 rfl) ?_
        refine lv_imul hx hb dX10_up_18 ?_
        refine lv_iconst (v := (1 : Int32)) hx hb dX10_up_19 ic_1 ?_
        refine lv_iadd hx hb dX10_up_20 ?_
        obtain ⟨hi7, hF⟩ := ck_ok hF
        refine rM_ld Z hP 16 7 (by decide +kernel) hi7 dX10_up_21 ?_
        refine lv_aload_n hx hb dX10_up_22 rfl (lv_at hl 0 rfl) ?_
        refine gf10_8 Z hP wd_6_10 dX10_up_23 ?_
        refine lv_iconst (v := (2 : Int32)) hx hb dX10_up_26 ic_2 ?_
        refine lv_iload_n hx hb dX10_up_27 rfl (lv_at hl 1 rfl) ?_
        refine lv_imul hx hb dX10_up_28 ?_
        refine lv_iconst (v := (1 : Int32)) hx hb dX10_up_29 ic_1 ?_
        refine lv_iadd hx hb dX10_up_30 ?_
        obtain ⟨hi8, hF⟩ := ck_ok hF
        refine rM_ld Z hP 16 7 (by decide +kernel) hi8 dX10_up_31 ?_
        refine lv_icmp_le (tgt := 39) hx hb dX10_up_32 rfl (fun hc => ?_) (fun hc => ?_)
        · have hF := (if_pos hc).symm.trans hF
          refine lv_iconst (v := (0 : Int32)) hx hb dX10_up_39 ic_0 ?_
          exact hb40 _ _ _ hF _ _ _ (lv_sub hl [0, 1, 2, 3] rfl) hP hS
        · have hF := (if_neg hc).symm.trans hF
          refine lv_iconst (v := (1 : Int32)) hx hb dX10_up_35 ic_1 ?_
          refine lv_goto (tgt := 40) hx hb dX10_up_36 rfl ?_
          exact hb40 _ _ _ hF _ _ _ (lv_sub hl [0, 1, 2, 3] rfl) hP hS
  refine lv_iconst (v := (-1 : Int32)) hx hb dX10_up_0 ic_m1 ?_
  refine lv_istore_n (lv' := [(2, .int (-1 : Int32)), (0, .ref (g.1 108)), (1, .int v1)]) hx hb dX10_up_1 rfl hl (Nat.le_of_ble_eq_true rfl) rfl (fun ls hl => ?_)
  refine lv_iconst (v := (0 : Int32)) hx hb dX10_up_2 ic_0 ?_
  refine lv_istore_n (lv' := [(3, .int (0 : Int32)), (2, .int (-1 : Int32)), (0, .ref (g.1 108)), (1, .int v1)]) hx hb dX10_up_3 rfl hl (Nat.le_of_ble_eq_true rfl) rfl (fun ls hl => ?_)
  exact (hL4 FU) _ _ hF _ _ _ (lv_sub hl [2, 3, 1, 0] rfl) hP hS
theorem xX10_up {p : Program} {l : Launch} {e : Env} {R : Room} {s : State} {m : MethodId} {args : Array Value} {below : List Frame} {meth : Method} {c : Code} {H : Heap} {locs : List Loc} {Q : State → Prop} {cc : ByteArray} {nL : Nat} {own : String} {g : GG} {pc index : Nat} {ls : Array Slot} {rest : List Value} {mc mm : Mem} (Z : ZZ p s m args c cc nL own g) (hP : va_P g.2.2.1 vwCl (wL g mc mm) H) (hS : va_S (AA g s.heap.size) s.heap H locs) {v1 : Int32} {q : Int32} (hq : F10_up v1 mm = some q) (hlk : Cond.methodLink own index yX10_up ∈ wsL_law) (hsz : ls.size = nL) (hro : (rest.map fun v => v.category).sum ≤ 8) (hR : 0 + 1 ≤ R.frames ∧ 8 + (5 + 11) + 0 ≤ R.locals) (hdg : decode cc pc = .ok (.invokevirtual index, 3)) (kk : ∀ (H : Heap) (locs : List Loc), va_P g.2.2.1 vwCl (wL g mc mm) H → va_S (AA g s.heap.size) s.heap H locs → W p l e R s m args below meth c H locs 0 0 Q (F0 m (pc + 3) ls (.int q :: rest))) : W p l e R s m args below meth c H locs 0 0 Q (F0 m pc ls (.int v1 :: .ref (g.1 108) :: rest)) :=
  x_VI Z hP hS (kX10_up l g v1 mc mm q hq) (mO) (ci := 10) (by decide) rfl rfl mf_X10_up mv_X10_up hlk rfl rfl hsz hro hR hdg kk
theorem dX10_lastWell_0 : decode cX10_lastWell 0 = .ok (.iconst (-1), 1) := by decide +kernel
theorem dX10_lastWell_1 : decode cX10_lastWell 1 = .ok (.istore_n 1, 1) := by decide +kernel
theorem dX10_lastWell_2 : decode cX10_lastWell 2 = .ok (.iconst 0, 1) := by decide +kernel
theorem dX10_lastWell_3 : decode cX10_lastWell 3 = .ok (.istore_n 2, 1) := by decide +kernel
theorem dX10_lastWell_4 : decode cX10_lastWell 4 = .ok (.iload_n 2, 1) := by decide +kernel
theorem dX10_lastWell_5 : decode cX10_lastWell 5 = .ok (.aload_n 0, 1) := by decide +kernel
theorem dX10_lastWell_6 : decode cX10_lastWell 6 = .ok (.getfield 120, 3) := by decide +kernel
theorem dX10_lastWell_9 : decode cX10_lastWell 9 = .ok (.if_icmp .ge 43, 3) := by decide +kernel
theorem dX10_lastWell_12 : decode cX10_lastWell 12 = .ok (.iload_n 1, 1) := by decide +kernel
theorem dX10_lastWell_13 : decode cX10_lastWell 13 = .ok (.iconst (-1), 1) := by decide +kernel
theorem dX10_lastWell_14 : decode cX10_lastWell 14 = .ok (.if_icmp .eq 26, 3) := by decide +kernel
theorem dX10_lastWell_17 : decode cX10_lastWell 17 = .ok (.aload_n 0, 1) := by decide +kernel
theorem dX10_lastWell_18 : decode cX10_lastWell 18 = .ok (.getfield 28, 3) := by decide +kernel
theorem dX10_lastWell_21 : decode cX10_lastWell 21 = .ok (.iconst 2, 1) := by decide +kernel
theorem dX10_lastWell_22 : decode cX10_lastWell 22 = .ok (.iload_n 2, 1) := by decide +kernel
theorem dX10_lastWell_23 : decode cX10_lastWell 23 = .ok (.imul, 1) := by decide +kernel
theorem dX10_lastWell_24 : decode cX10_lastWell 24 = .ok (.iconst 1, 1) := by decide +kernel
theorem dX10_lastWell_25 : decode cX10_lastWell 25 = .ok (.iadd, 1) := by decide +kernel
theorem dX10_lastWell_26 : decode cX10_lastWell 26 = .ok (.iaload, 1) := by decide +kernel
theorem dX10_lastWell_27 : decode cX10_lastWell 27 = .ok (.aload_n 0, 1) := by decide +kernel
theorem dX10_lastWell_28 : decode cX10_lastWell 28 = .ok (.getfield 28, 3) := by decide +kernel
theorem dX10_lastWell_31 : decode cX10_lastWell 31 = .ok (.iconst 2, 1) := by decide +kernel
theorem dX10_lastWell_32 : decode cX10_lastWell 32 = .ok (.iload_n 1, 1) := by decide +kernel
theorem dX10_lastWell_33 : decode cX10_lastWell 33 = .ok (.imul, 1) := by decide +kernel
theorem dX10_lastWell_34 : decode cX10_lastWell 34 = .ok (.iconst 1, 1) := by decide +kernel
theorem dX10_lastWell_35 : decode cX10_lastWell 35 = .ok (.iadd, 1) := by decide +kernel
theorem dX10_lastWell_36 : decode cX10_lastWell 36 = .ok (.iaload, 1) := by decide +kernel
theorem dX10_lastWell_37 : decode cX10_lastWell 37 = .ok (.if_icmp .ge 7, 3) := by decide +kernel
theorem dX10_lastWell_40 : decode cX10_lastWell 40 = .ok (.iload_n 2, 1) := by decide +kernel
theorem dX10_lastWell_41 : decode cX10_lastWell 41 = .ok (.goto 4, 3) := by decide +kernel
theorem dX10_lastWell_44 : decode cX10_lastWell 44 = .ok (.iload_n 1, 1) := by decide +kernel
theorem dX10_lastWell_45 : decode cX10_lastWell 45 = .ok (.istore_n 1, 1) := by decide +kernel
theorem dX10_lastWell_46 : decode cX10_lastWell 46 = .ok (.iinc 2 1, 3) := by decide +kernel
theorem dX10_lastWell_49 : decode cX10_lastWell 49 = .ok (.goto (-45), 3) := by decide +kernel
theorem dX10_lastWell_52 : decode cX10_lastWell 52 = .ok (.iload_n 1, 1) := by decide +kernel
theorem dX10_lastWell_53 : decode cX10_lastWell 53 = .ok (.ireturn, 1) := by decide +kernel
noncomputable def F10_lastWell_b45 (kh : Int32 → Int32 → Option (Int32)) (mm : Mem) (a2 : Int32) (s0 : Int32) : Option (Int32) :=
  kh s0 (a2 + (1 : Int32))
noncomputable def F10_lastWell_b40 (kh : Int32 → Int32 → Option (Int32)) (mm : Mem) (a2 : Int32) : Option (Int32) :=
  (F10_lastWell_b45 kh mm) a2 a2
noncomputable def F10_lastWell_p4 (kh : Int32 → Int32 → Option (Int32)) (mm : Mem) (a1 : Int32) (a2 : Int32) : Option (Int32) :=
  (if (mm 0 7) ≤ a2 then some a1 else (if a1 = (-1 : Int32) then (F10_lastWell_b40 kh mm) a2 else (ck (((2 : Int32) * a2) + (1 : Int32)) 16 (ck (((2 : Int32) * a1) + (1 : Int32)) 16 (if (mm 7 (((2 : Int32) * a1) + (1 : Int32)).toNatClampNeg) ≤ (mm 7 (((2 : Int32) * a2) + (1 : Int32)).toNatClampNeg) then (F10_lastWell_b45 kh mm) a2 a1 else (F10_lastWell_b40 kh mm) a2)))))
noncomputable def F10_lastWell_h4 (mm : Mem) : Nat → Int32 → Int32 → Option (Int32)
  | 0, _, _ => none
  | n + 1, a1, a2 => F10_lastWell_p4 (F10_lastWell_h4 mm n) mm a1 a2
noncomputable def F10_lastWell (mm : Mem) : Option (Int32) :=
  (F10_lastWell_h4 mm FU) (-1 : Int32) (0 : Int32)
set_option maxHeartbeats 4000000 in
set_option maxRecDepth 100000 in
theorem kX10_lastWell (l : Launch) (g : GG) (mc mm : Mem) (q : Int32) (hF : F10_lastWell mm = some q) : KI l yX10_lastWell cX10_lastWell 3 .int 0 0 g [.ref (g.1 108)] mc mm q (mc, mm) := by
  intro sz
  refine x_start (Qc := fun z => QI g z q (mc, mm)) (by decide +kernel) (Nat.le_of_ble_eq_true rfl) ?_ sz
  intro p e s m args below meth c ls Z hr hlk hP hl
  have hx := Z.1.1
  have hb := Z.1.2.1
  have hown := Z.1.2.2.2.1
  have hts := Z.1.2.2.2.2
  have hS : va_S (AA g s.heap.size) s.heap s.heap [] := va_S.rf
  have hl : lv_has ls 3 [(0, .ref (g.1 108))] := hl
  unfold F10_lastWell at hF
  have hL4 : ∀ n : Nat, ∀ (a1 : Int32) (a2 : Int32), F10_lastWell_h4 mm n a1 a2 = some q → ∀ (H : Heap) (locs : List Loc) (ls : Array Slot), lv_has ls 3 [(0, .ref (g.1 108)), (1, .int a1), (2, .int a2)] → va_P g.2.2.1 vwCl (wL g mc mm) H → va_S (AA g s.heap.size) s.heap H locs → W p l e { frames := 0, cells := 0, slots := 0, locals := 0 } s m args below meth c H locs 0 0 (MQ below (QI g s.heap.size q (mc, mm)) args s 0 0 (AA g s.heap.size)) (F0 m 4 ls []) := by
    intro n
    induction n with
    | zero => intro a1 a2 hF H locs ls hl hP hS; exact absurd hF (fun z => nomatch (show (none : Option _) = some q from z))
    | succ n ih =>
      generalize hkh : F10_lastWell_h4 mm n = kh at ih
      have hb45 : ∀ (a2 : Int32) (s0 : Int32), F10_lastWell_b45 kh mm a2 s0 = some q → ∀ (H : Heap) (locs : List Loc) (ls : Array Slot), lv_has ls 3 [(0, .ref (g.1 108)), (2, .int a2)] → va_P g.2.2.1 vwCl (wL g mc mm) H → va_S (AA g s.heap.size) s.heap H locs → W p l e { frames := 0, cells := 0, slots := 0, locals := 0 } s m args below meth c H locs 0 0 (MQ below (QI g s.heap.size q (mc, mm)) args s 0 0 (AA g s.heap.size)) (F0 m 45 ls [.int s0]) := by
        intro a2 s0 hF H locs ls hl hP hS
        unfold F10_lastWell_b45 at hF
        refine lv_istore_n (lv' := [(1, .int s0), (0, .ref (g.1 108)), (2, .int a2)]) hx hb dX10_lastWell_45 rfl hl (Nat.le_of_ble_eq_true rfl) rfl (fun ls hl => ?_)
        refine lv_iinc (lv' := [(2, .int (a2 + (1 : Int32))), (1, .int s0), (0, .ref (g.1 108))]) (v := (a2 + (1 : Int32))) hx hb dX10_lastWell_46 hl (k := 2) rfl (io_1 _) (Nat.le_of_ble_eq_true rfl) rfl (fun ls hl => ?_)
        refine lv_goto (tgt := 4) hx hb dX10_lastWell_49 rfl ?_
        exact ih _ _ hF _ _ _ (lv_sub hl [2, 1, 0] rfl) hP hS
      have hb40 : ∀ (a2 : Int32), F10_lastWell_b40 kh mm a2 = some q → ∀ (H : Heap) (locs : List Loc) (ls : Array Slot), lv_has ls 3 [(0, .ref (g.1 108)), (2, .int a2)] → va_P g.2.2.1 vwCl (wL g mc mm) H → va_S (AA g s.heap.size) s.heap H locs → W p l e { frames := 0, cells := 0, slots := 0, locals := 0 } s m args below meth c H locs 0 0 (MQ below (QI g s.heap.size q (mc, mm)) args s 0 0 (AA g s.heap.size)) (F0 m 40 ls []) := by
        intro a2 hF H locs ls hl hP hS
        unfold F10_lastWell_b40 at hF
        refine lv_iload_n hx hb dX10_lastWell_40 rfl (lv_at hl 1 rfl) ?_
        refine lv_goto (tgt := 45) hx hb dX10_lastWell_41 rfl ?_
        exact hb45 _ _ hF _ _ _ (lv_sub hl [0, 1] rfl) hP hS
      intro a1 a2 hF H locs ls hl hP hS
      have hF : F10_lastWell_p4 (F10_lastWell_h4 mm n) mm a1 a2 = some q := hF
      rw [hkh] at hF
      unfold F10_lastWell_p4 at hF
      refine lv_iload_n hx hb dX10_lastWell_4 rfl (lv_at hl 2 rfl) ?_
      refine lv_aload_n hx hb dX10_lastWell_5 rfl (lv_at hl 0 rfl) ?_
      refine gf10_7 Z hP wd_14_19 dX10_lastWell_6 ?_
      refine lv_icmp_ge (tgt := 52) hx hb dX10_lastWell_9 rfl (fun hc => ?_) (fun hc => ?_)
      · have hF := (if_pos hc).symm.trans hF
        refine lv_iload_n hx hb dX10_lastWell_52 rfl (lv_at hl 1 rfl) ?_
        exact ret_I Z hr hlk hP hS hF dX10_lastWell_53
      · have hF := (if_neg hc).symm.trans hF
        refine lv_iload_n hx hb dX10_lastWell_12 rfl (lv_at hl 1 rfl) ?_
        refine lv_iconst (v := (-1 : Int32)) hx hb dX10_lastWell_13 ic_m1 ?_
        refine lv_icmp_eq (tgt := 40) hx hb dX10_lastWell_14 rfl (fun hc => ?_) (fun hc => ?_)
        · have hF := (if_pos hc).symm.trans hF
          exact hb40 _ hF _ _ _ (lv_sub hl [0, 2] rfl) hP hS
        · have hF := (if_neg hc).symm.trans hF
          refine lv_aload_n hx hb dX10_lastWell_17 rfl (lv_at hl 0 rfl) ?_
          refine gf10_8 Z hP wd_6_10 dX10_lastWell_18 ?_
          refine lv_iconst (v := (2 : Int32)) hx hb dX10_lastWell_21 ic_2 ?_
          refine lv_iload_n hx hb dX10_lastWell_22 rfl (lv_at hl 2 rfl) ?_
          refine lv_imul hx hb dX10_lastWell_23 ?_
          refine lv_iconst (v := (1 : Int32)) hx hb dX10_lastWell_24 ic_1 ?_
          refine lv_iadd hx hb dX10_lastWell_25 ?_
          obtain ⟨hi3, hF⟩ := ck_ok hF
          refine rM_ld Z hP 16 7 (by decide +kernel) hi3 dX10_lastWell_26 ?_
          refine lv_aload_n hx hb dX10_lastWell_27 rfl (lv_at hl 0 rfl) ?_
          refine gf10_8 Z hP wd_6_10 dX10_lastWell_28 ?_
          refine lv_iconst (v := (2 : Int32)) hx hb dX10_lastWell_31 ic_2 ?_
          refine lv_iload_n hx hb dX10_lastWell_32 rfl (lv_at hl 1 rfl) ?_
          refine lv_imul hx hb dX10_lastWell_33 ?_
          refine lv_iconst (v := (1 : Int32)) hx hb dX10_lastWell_34 ic_1 ?_
          refine lv_iadd hx hb dX10_lastWell_35 ?_
          obtain ⟨hi4, hF⟩ := ck_ok hF
          refine rM_ld Z hP 16 7 (by decide +kernel) hi4 dX10_lastWell_36 ?_
          refine lv_icmp_ge (tgt := 44) hx hb dX10_lastWell_37 rfl (fun hc => ?_) (fun hc => ?_)
          · have hF := (if_pos hc).symm.trans hF
            refine lv_iload_n hx hb dX10_lastWell_44 rfl (lv_at hl 1 rfl) ?_
            exact hb45 _ _ hF _ _ _ (lv_sub hl [0, 2] rfl) hP hS
          · have hF := (if_neg hc).symm.trans hF
            exact hb40 _ hF _ _ _ (lv_sub hl [0, 2] rfl) hP hS
  refine lv_iconst (v := (-1 : Int32)) hx hb dX10_lastWell_0 ic_m1 ?_
  refine lv_istore_n (lv' := [(1, .int (-1 : Int32)), (0, .ref (g.1 108))]) hx hb dX10_lastWell_1 rfl hl (Nat.le_of_ble_eq_true rfl) rfl (fun ls hl => ?_)
  refine lv_iconst (v := (0 : Int32)) hx hb dX10_lastWell_2 ic_0 ?_
  refine lv_istore_n (lv' := [(2, .int (0 : Int32)), (1, .int (-1 : Int32)), (0, .ref (g.1 108))]) hx hb dX10_lastWell_3 rfl hl (Nat.le_of_ble_eq_true rfl) rfl (fun ls hl => ?_)
  exact (hL4 FU) _ _ hF _ _ _ (lv_sub hl [2, 1, 0] rfl) hP hS
theorem xX10_lastWell {p : Program} {l : Launch} {e : Env} {R : Room} {s : State} {m : MethodId} {args : Array Value} {below : List Frame} {meth : Method} {c : Code} {H : Heap} {locs : List Loc} {Q : State → Prop} {cc : ByteArray} {nL : Nat} {own : String} {g : GG} {pc index : Nat} {ls : Array Slot} {rest : List Value} {mc mm : Mem} (Z : ZZ p s m args c cc nL own g) (hP : va_P g.2.2.1 vwCl (wL g mc mm) H) (hS : va_S (AA g s.heap.size) s.heap H locs) {q : Int32} (hq : F10_lastWell mm = some q) (hlk : Cond.methodLink own index yX10_lastWell ∈ wsL_law) (hsz : ls.size = nL) (hro : (rest.map fun v => v.category).sum ≤ 8) (hR : 0 + 1 ≤ R.frames ∧ 8 + (3 + 11) + 0 ≤ R.locals) (hdg : decode cc pc = .ok (.invokevirtual index, 3)) (kk : ∀ (H : Heap) (locs : List Loc), va_P g.2.2.1 vwCl (wL g mc mm) H → va_S (AA g s.heap.size) s.heap H locs → W p l e R s m args below meth c H locs 0 0 Q (F0 m (pc + 3) ls (.int q :: rest))) : W p l e R s m args below meth c H locs 0 0 Q (F0 m pc ls (.ref (g.1 108) :: rest)) :=
  x_VI Z hP hS (kX10_lastWell l g mc mm q hq) (mO) (ci := 10) (by decide) rfl rfl mf_X10_lastWell mv_X10_lastWell hlk rfl rfl hsz hro hR hdg kk
theorem dX10_wellBy_0 : decode cX10_wellBy 0 = .ok (.iload_n 2, 1) := by decide +kernel
theorem dX10_wellBy_1 : decode cX10_wellBy 1 = .ok (.iconst 2, 1) := by decide +kernel
theorem dX10_wellBy_2 : decode cX10_wellBy 2 = .ok (.if_icmp .ge 16, 3) := by decide +kernel
theorem dX10_wellBy_5 : decode cX10_wellBy 5 = .ok (.aload_n 0, 1) := by decide +kernel
theorem dX10_wellBy_6 : decode cX10_wellBy 6 = .ok (.getfield 28, 3) := by decide +kernel
theorem dX10_wellBy_9 : decode cX10_wellBy 9 = .ok (.iconst 2, 1) := by decide +kernel
theorem dX10_wellBy_10 : decode cX10_wellBy 10 = .ok (.iload_n 1, 1) := by decide +kernel
theorem dX10_wellBy_11 : decode cX10_wellBy 11 = .ok (.imul, 1) := by decide +kernel
theorem dX10_wellBy_12 : decode cX10_wellBy 12 = .ok (.iload_n 2, 1) := by decide +kernel
theorem dX10_wellBy_13 : decode cX10_wellBy 13 = .ok (.iadd, 1) := by decide +kernel
theorem dX10_wellBy_14 : decode cX10_wellBy 14 = .ok (.iaload, 1) := by decide +kernel
theorem dX10_wellBy_15 : decode cX10_wellBy 15 = .ok (.goto 21, 3) := by decide +kernel
theorem dX10_wellBy_18 : decode cX10_wellBy 18 = .ok (.iload_n 2, 1) := by decide +kernel
theorem dX10_wellBy_19 : decode cX10_wellBy 19 = .ok (.iconst 2, 1) := by decide +kernel
theorem dX10_wellBy_20 : decode cX10_wellBy 20 = .ok (.if_icmp .ne 11, 3) := by decide +kernel
theorem dX10_wellBy_23 : decode cX10_wellBy 23 = .ok (.aload_n 0, 1) := by decide +kernel
theorem dX10_wellBy_24 : decode cX10_wellBy 24 = .ok (.iload_n 1, 1) := by decide +kernel
theorem dX10_wellBy_25 : decode cX10_wellBy 25 = .ok (.invokevirtual 154, 3) := by decide +kernel
theorem dX10_wellBy_28 : decode cX10_wellBy 28 = .ok (.goto 8, 3) := by decide +kernel
theorem dX10_wellBy_31 : decode cX10_wellBy 31 = .ok (.aload_n 0, 1) := by decide +kernel
theorem dX10_wellBy_32 : decode cX10_wellBy 32 = .ok (.iload_n 1, 1) := by decide +kernel
theorem dX10_wellBy_33 : decode cX10_wellBy 33 = .ok (.invokevirtual 157, 3) := by decide +kernel
theorem dX10_wellBy_36 : decode cX10_wellBy 36 = .ok (.ireturn, 1) := by decide +kernel
noncomputable def F10_wellBy (v1 : Int32) (v2 : Int32) (mm : Mem) : Option (Int32) :=
  (if (2 : Int32) ≤ v2 then (if v2 = (2 : Int32) then ((F10_down v1 mm).bind (fun q5 => (some q5))) else ((F10_up v1 mm).bind (fun q4 => (some q4)))) else (ck (((2 : Int32) * v1) + v2) 16 (some (mm 7 (((2 : Int32) * v1) + v2).toNatClampNeg))))
set_option maxHeartbeats 4000000 in
set_option maxRecDepth 100000 in
theorem kX10_wellBy (l : Launch) (g : GG) (v1 : Int32) (v2 : Int32) (mc mm : Mem) (q : Int32) (hF : F10_wellBy v1 v2 mm = some q) : KI l yX10_wellBy cX10_wellBy 3 .int 1 24 g [.ref (g.1 108), .int v1, .int v2] mc mm q (mc, mm) := by
  intro sz
  refine x_start (Qc := fun z => QI g z q (mc, mm)) (by decide +kernel) (Nat.le_of_ble_eq_true rfl) ?_ sz
  intro p e s m args below meth c ls Z hr hlk hP hl
  have hx := Z.1.1
  have hb := Z.1.2.1
  have hown := Z.1.2.2.2.1
  have hts := Z.1.2.2.2.2
  have hS : va_S (AA g s.heap.size) s.heap s.heap [] := va_S.rf
  have hl : lv_has ls 3 [(0, .ref (g.1 108)), (1, .int v1), (2, .int v2)] := hl
  unfold F10_wellBy at hF
  refine lv_iload_n hx hb dX10_wellBy_0 rfl (lv_at hl 2 rfl) ?_
  refine lv_iconst (v := (2 : Int32)) hx hb dX10_wellBy_1 ic_2 ?_
  refine lv_icmp_ge (tgt := 18) hx hb dX10_wellBy_2 rfl (fun hc => ?_) (fun hc => ?_)
  · have hF := (if_pos hc).symm.trans hF
    refine lv_iload_n hx hb dX10_wellBy_18 rfl (lv_at hl 2 rfl) ?_
    refine lv_iconst (v := (2 : Int32)) hx hb dX10_wellBy_19 ic_2 ?_
    refine lv_icmp_ne (tgt := 31) hx hb dX10_wellBy_20 rfl (fun hc => ?_) (fun hc => ?_)
    · have hF := (if_neg hc).symm.trans hF
      refine lv_aload_n hx hb dX10_wellBy_31 rfl (lv_at hl 0 rfl) ?_
      refine lv_iload_n hx hb dX10_wellBy_32 rfl (lv_at hl 1 rfl) ?_
      obtain ⟨q4, hq4, hF⟩ := bd_ok hF
      refine xX10_up Z hP hS hq4 wd_16_10 hl.1 (Nat.le_of_ble_eq_true rfl) ⟨Nat.le_of_ble_eq_true rfl, Nat.le_of_ble_eq_true rfl⟩ dX10_wellBy_33 (fun H locs hP hS => ?_)
      exact ret_I Z hr hlk hP hS hF dX10_wellBy_36
    · have hF := (if_pos hc).symm.trans hF
      refine lv_aload_n hx hb dX10_wellBy_23 rfl (lv_at hl 0 rfl) ?_
      refine lv_iload_n hx hb dX10_wellBy_24 rfl (lv_at hl 1 rfl) ?_
      obtain ⟨q5, hq5, hF⟩ := bd_ok hF
      refine xX10_down Z hP hS hq5 wd_16_6 hl.1 (Nat.le_of_ble_eq_true rfl) ⟨Nat.le_of_ble_eq_true rfl, Nat.le_of_ble_eq_true rfl⟩ dX10_wellBy_25 (fun H locs hP hS => ?_)
      refine lv_goto (tgt := 36) hx hb dX10_wellBy_28 rfl ?_
      exact ret_I Z hr hlk hP hS hF dX10_wellBy_36
  · have hF := (if_neg hc).symm.trans hF
    refine lv_aload_n hx hb dX10_wellBy_5 rfl (lv_at hl 0 rfl) ?_
    refine gf10_8 Z hP wd_6_10 dX10_wellBy_6 ?_
    refine lv_iconst (v := (2 : Int32)) hx hb dX10_wellBy_9 ic_2 ?_
    refine lv_iload_n hx hb dX10_wellBy_10 rfl (lv_at hl 1 rfl) ?_
    refine lv_imul hx hb dX10_wellBy_11 ?_
    refine lv_iload_n hx hb dX10_wellBy_12 rfl (lv_at hl 2 rfl) ?_
    refine lv_iadd hx hb dX10_wellBy_13 ?_
    obtain ⟨hi6, hF⟩ := ck_ok hF
    refine rM_ld Z hP 16 7 (by decide +kernel) hi6 dX10_wellBy_14 ?_
    refine lv_goto (tgt := 36) hx hb dX10_wellBy_15 rfl ?_
    exact ret_I Z hr hlk hP hS hF dX10_wellBy_36
theorem xX10_wellBy {p : Program} {l : Launch} {e : Env} {R : Room} {s : State} {m : MethodId} {args : Array Value} {below : List Frame} {meth : Method} {c : Code} {H : Heap} {locs : List Loc} {Q : State → Prop} {cc : ByteArray} {nL : Nat} {own : String} {g : GG} {pc index : Nat} {ls : Array Slot} {rest : List Value} {mc mm : Mem} (Z : ZZ p s m args c cc nL own g) (hP : va_P g.2.2.1 vwCl (wL g mc mm) H) (hS : va_S (AA g s.heap.size) s.heap H locs) {v1 : Int32} {v2 : Int32} {q : Int32} (hq : F10_wellBy v1 v2 mm = some q) (hlk : Cond.methodLink own index yX10_wellBy ∈ wsL_law) (hsz : ls.size = nL) (hro : (rest.map fun v => v.category).sum ≤ 8) (hR : 1 + 1 ≤ R.frames ∧ 8 + (3 + 11) + 24 ≤ R.locals) (hdg : decode cc pc = .ok (.invokevirtual index, 3)) (kk : ∀ (H : Heap) (locs : List Loc), va_P g.2.2.1 vwCl (wL g mc mm) H → va_S (AA g s.heap.size) s.heap H locs → W p l e R s m args below meth c H locs 0 0 Q (F0 m (pc + 3) ls (.int q :: rest))) : W p l e R s m args below meth c H locs 0 0 Q (F0 m pc ls (.int v2 :: .int v1 :: .ref (g.1 108) :: rest)) :=
  x_VI Z hP hS (kX10_wellBy l g v1 v2 mc mm q hq) (mO) (ci := 10) (by decide) rfl rfl mf_X10_wellBy mv_X10_wellBy hlk rfl rfl hsz hro hR hdg kk
theorem dX10_well_0 : decode cX10_well 0 = .ok (.aload_n 0, 1) := by decide +kernel
theorem dX10_well_1 : decode cX10_well 1 = .ok (.invokevirtual 140, 3) := by decide +kernel
theorem dX10_well_4 : decode cX10_well 4 = .ok (.pop, 1) := by decide +kernel
theorem dX10_well_5 : decode cX10_well 5 = .ok (.aload_n 0, 1) := by decide +kernel
theorem dX10_well_6 : decode cX10_well 6 = .ok (.iload_n 1, 1) := by decide +kernel
theorem dX10_well_7 : decode cX10_well 7 = .ok (.invokevirtual 160, 3) := by decide +kernel
theorem dX10_well_10 : decode cX10_well 10 = .ok (.ifCond .eq 24, 3) := by decide +kernel
theorem dX10_well_13 : decode cX10_well 13 = .ok (.iload_n 2, 1) := by decide +kernel
theorem dX10_well_14 : decode cX10_well 14 = .ok (.i2l, 1) := by decide +kernel
theorem dX10_well_15 : decode cX10_well 15 = .ok (.lconst 0, 1) := by decide +kernel
theorem dX10_well_16 : decode cX10_well 16 = .ok (.ldc2_w 90, 3) := by decide +kernel
theorem dX10_well_19 : decode cX10_well 19 = .ok (.invokestatic 83, 3) := by decide +kernel
theorem dX10_well_22 : decode cX10_well 22 = .ok (.ifCond .eq 12, 3) := by decide +kernel
theorem dX10_well_25 : decode cX10_well 25 = .ok (.aload_n 0, 1) := by decide +kernel
theorem dX10_well_26 : decode cX10_well 26 = .ok (.iload_n 1, 1) := by decide +kernel
theorem dX10_well_27 : decode cX10_well 27 = .ok (.iload_n 2, 1) := by decide +kernel
theorem dX10_well_28 : decode cX10_well 28 = .ok (.invokevirtual 163, 3) := by decide +kernel
theorem dX10_well_31 : decode cX10_well 31 = .ok (.goto 5, 3) := by decide +kernel
theorem dX10_well_34 : decode cX10_well 34 = .ok (.bipush (-2), 2) := by decide +kernel
theorem dX10_well_36 : decode cX10_well 36 = .ok (.ireturn, 1) := by decide +kernel
noncomputable def F10_well_b34 (v1 : Int32) (v2 : Int32) (M : Mem) : Option (Int32 × Mem) :=
  some ((-2 : Int32), M)
noncomputable def F10_well (v1 : Int32) (v2 : Int32) (mm : Mem) : Option (Int32 × Mem) :=
  ((F10_readsWells mm).bind (fun q5 => ((F10_isWell v1 q5.2).bind (fun q6 => (if q6 = (0 : Int32) then (F10_well_b34 v1 v2) q5.2 else ((F10_in v2.toInt64 (0 : Int64) (3 : Int64)).bind (fun q7 => (if q7 = (0 : Int32) then (F10_well_b34 v1 v2) q5.2 else ((F10_wellBy v1 v2 q5.2).bind (fun q8 => (some (q8, q5.2))))))))))))
set_option maxHeartbeats 4000000 in
set_option maxRecDepth 100000 in
theorem kX10_well (l : Launch) (g : GG) (v1 : Int32) (v2 : Int32) (mc mm : Mem) (q : Int32 × Mem) (hF : F10_well v1 v2 mm = some q) : KI l yX10_well cX10_well 3 .int 3 70 g [.ref (g.1 108), .int v1, .int v2] mc mm q.1 (mc, q.2) := by
  intro sz
  refine x_start (Qc := fun z => QI g z q.1 (mc, q.2)) (by decide +kernel) (Nat.le_of_ble_eq_true rfl) ?_ sz
  intro p e s m args below meth c ls Z hr hlk hP hl
  have hx := Z.1.1
  have hb := Z.1.2.1
  have hown := Z.1.2.2.2.1
  have hts := Z.1.2.2.2.2
  have hS : va_S (AA g s.heap.size) s.heap s.heap [] := va_S.rf
  have hl : lv_has ls 3 [(0, .ref (g.1 108)), (1, .int v1), (2, .int v2)] := hl
  unfold F10_well at hF
  have hb34 : ∀  (M : Mem), F10_well_b34 v1 v2 M = some q → ∀ (H : Heap) (locs : List Loc) (ls : Array Slot), lv_has ls 3 [] → va_P g.2.2.1 vwCl (wL g mc M) H → va_S (AA g s.heap.size) s.heap H locs → W p l e { frames := 3, cells := 0, slots := 0, locals := 70 } s m args below meth c H locs 0 0 (MQ below (QI g s.heap.size q.1 (mc, q.2)) args s 0 0 (AA g s.heap.size)) (F0 m 34 ls []) := by
    intro M hF H locs ls hl hP hS
    unfold F10_well_b34 at hF
    refine lv_bipush (v := (-2 : Int32)) hx hb dX10_well_34 bp_m2 ?_
    exact ret_IWM Z hr hlk hP hS hF dX10_well_36
  refine lv_aload_n hx hb dX10_well_0 rfl (lv_at hl 0 rfl) ?_
  obtain ⟨q5, hq5, hF⟩ := bd_ok hF
  refine xX10_readsWells Z hP hS hq5 wd_14_15 hl.1 (Nat.le_of_ble_eq_true rfl) ⟨Nat.le_of_ble_eq_true rfl, Nat.le_of_ble_eq_true rfl⟩ dX10_well_1 (fun H locs hP hS => ?_)
  refine lv_pop hx hb dX10_well_4 rfl ?_
  refine lv_aload_n hx hb dX10_well_5 rfl (lv_at hl 0 rfl) ?_
  refine lv_iload_n hx hb dX10_well_6 rfl (lv_at hl 1 rfl) ?_
  obtain ⟨q6, hq6, hF⟩ := bd_ok hF
  refine xX10_isWell Z hP hS hq6 wd_15_22 hl.1 (Nat.le_of_ble_eq_true rfl) ⟨Nat.le_of_ble_eq_true rfl, Nat.le_of_ble_eq_true rfl⟩ dX10_well_7 (fun H locs hP hS => ?_)
  refine lv_if_eq (tgt := 34) hx hb dX10_well_10 rfl (fun hc => ?_) (fun hc => ?_)
  · have hF := (if_pos hc).symm.trans hF
    exact hb34 _ hF _ _ _ (lv_sub hl [] rfl) hP hS
  · have hF := (if_neg hc).symm.trans hF
    refine lv_iload_n hx hb dX10_well_13 rfl (lv_at hl 2 rfl) ?_
    refine lv_i2l (v := v2.toInt64) hx hb dX10_well_14 rfl ?_
    refine lv_lconst (v := (0 : Int64)) hx hb dX10_well_15 lc_0 ?_
    refine lv_ldc2 (v := (3 : Int64)) hx hb hown (hts _ wd_15_21) dX10_well_16 ?_
    obtain ⟨q7, hq7, hF⟩ := bd_ok hF
    refine xX10_in Z hP hS hq7 wd_13_8 hl.1 (Nat.le_of_ble_eq_true rfl) ⟨Nat.le_of_ble_eq_true rfl, Nat.le_of_ble_eq_true rfl⟩ dX10_well_19 (fun H locs hP hS => ?_)
    refine lv_if_eq (tgt := 34) hx hb dX10_well_22 rfl (fun hc => ?_) (fun hc => ?_)
    · have hF := (if_pos hc).symm.trans hF
      exact hb34 _ hF _ _ _ (lv_sub hl [] rfl) hP hS
    · have hF := (if_neg hc).symm.trans hF
      refine lv_aload_n hx hb dX10_well_25 rfl (lv_at hl 0 rfl) ?_
      refine lv_iload_n hx hb dX10_well_26 rfl (lv_at hl 1 rfl) ?_
      refine lv_iload_n hx hb dX10_well_27 rfl (lv_at hl 2 rfl) ?_
      obtain ⟨q8, hq8, hF⟩ := bd_ok hF
      refine xX10_wellBy Z hP hS hq8 wd_16_2 hl.1 (Nat.le_of_ble_eq_true rfl) ⟨Nat.le_of_ble_eq_true rfl, Nat.le_of_ble_eq_true rfl⟩ dX10_well_28 (fun H locs hP hS => ?_)
      refine lv_goto (tgt := 36) hx hb dX10_well_31 rfl ?_
      exact ret_IWM Z hr hlk hP hS hF dX10_well_36
theorem xX10_well {p : Program} {l : Launch} {e : Env} {R : Room} {s : State} {m : MethodId} {args : Array Value} {below : List Frame} {meth : Method} {c : Code} {H : Heap} {locs : List Loc} {Q : State → Prop} {cc : ByteArray} {nL : Nat} {own : String} {g : GG} {pc index : Nat} {ls : Array Slot} {rest : List Value} {mc mm : Mem} (Z : ZZ p s m args c cc nL own g) (hP : va_P g.2.2.1 vwCl (wL g mc mm) H) (hS : va_S (AA g s.heap.size) s.heap H locs) {v1 : Int32} {v2 : Int32} {q : Int32 × Mem} (hq : F10_well v1 v2 mm = some q) (hlk : Cond.methodLink own index yX10_well ∈ wsL_law) (hsz : ls.size = nL) (hro : (rest.map fun v => v.category).sum ≤ 8) (hR : 3 + 1 ≤ R.frames ∧ 8 + (3 + 11) + 70 ≤ R.locals) (hdg : decode cc pc = .ok (.invokevirtual index, 3)) (kk : ∀ (H : Heap) (locs : List Loc), va_P g.2.2.1 vwCl (wL g mc q.2) H → va_S (AA g s.heap.size) s.heap H locs → W p l e R s m args below meth c H locs 0 0 Q (F0 m (pc + 3) ls (.int q.1 :: rest))) : W p l e R s m args below meth c H locs 0 0 Q (F0 m pc ls (.int v2 :: .int v1 :: .ref (g.1 108) :: rest)) :=
  x_VI Z hP hS (kX10_well l g v1 v2 mc mm q hq) (mO) (ci := 10) (by decide) rfl rfl mf_X10_well mv_X10_well hlk rfl rfl hsz hro hR hdg kk
theorem dX10_sayingBy_0 : decode cX10_sayingBy 0 = .ok (.iload_n 2, 1) := by decide +kernel
theorem dX10_sayingBy_1 : decode cX10_sayingBy 1 = .ok (.iconst 4, 1) := by decide +kernel
theorem dX10_sayingBy_2 : decode cX10_sayingBy 2 = .ok (.if_icmp .lt 20, 3) := by decide +kernel
theorem dX10_sayingBy_5 : decode cX10_sayingBy 5 = .ok (.iload_n 2, 1) := by decide +kernel
theorem dX10_sayingBy_6 : decode cX10_sayingBy 6 = .ok (.iconst 4, 1) := by decide +kernel
theorem dX10_sayingBy_7 : decode cX10_sayingBy 7 = .ok (.isub, 1) := by decide +kernel
theorem dX10_sayingBy_8 : decode cX10_sayingBy 8 = .ok (.aload_n 0, 1) := by decide +kernel
theorem dX10_sayingBy_9 : decode cX10_sayingBy 9 = .ok (.getfield 31, 3) := by decide +kernel
theorem dX10_sayingBy_12 : decode cX10_sayingBy 12 = .ok (.bipush 8, 2) := by decide +kernel
theorem dX10_sayingBy_14 : decode cX10_sayingBy 14 = .ok (.iload_n 1, 1) := by decide +kernel
theorem dX10_sayingBy_15 : decode cX10_sayingBy 15 = .ok (.imul, 1) := by decide +kernel
theorem dX10_sayingBy_16 : decode cX10_sayingBy 16 = .ok (.iconst 3, 1) := by decide +kernel
theorem dX10_sayingBy_17 : decode cX10_sayingBy 17 = .ok (.iadd, 1) := by decide +kernel
theorem dX10_sayingBy_18 : decode cX10_sayingBy 18 = .ok (.iaload, 1) := by decide +kernel
theorem dX10_sayingBy_19 : decode cX10_sayingBy 19 = .ok (.if_icmp .ge 17, 3) := by decide +kernel
theorem dX10_sayingBy_22 : decode cX10_sayingBy 22 = .ok (.aload_n 0, 1) := by decide +kernel
theorem dX10_sayingBy_23 : decode cX10_sayingBy 23 = .ok (.getfield 31, 3) := by decide +kernel
theorem dX10_sayingBy_26 : decode cX10_sayingBy 26 = .ok (.bipush 8, 2) := by decide +kernel
theorem dX10_sayingBy_28 : decode cX10_sayingBy 28 = .ok (.iload_n 1, 1) := by decide +kernel
theorem dX10_sayingBy_29 : decode cX10_sayingBy 29 = .ok (.imul, 1) := by decide +kernel
theorem dX10_sayingBy_30 : decode cX10_sayingBy 30 = .ok (.iload_n 2, 1) := by decide +kernel
theorem dX10_sayingBy_31 : decode cX10_sayingBy 31 = .ok (.iadd, 1) := by decide +kernel
theorem dX10_sayingBy_32 : decode cX10_sayingBy 32 = .ok (.iaload, 1) := by decide +kernel
theorem dX10_sayingBy_33 : decode cX10_sayingBy 33 = .ok (.goto 4, 3) := by decide +kernel
theorem dX10_sayingBy_36 : decode cX10_sayingBy 36 = .ok (.iconst (-1), 1) := by decide +kernel
theorem dX10_sayingBy_37 : decode cX10_sayingBy 37 = .ok (.ireturn, 1) := by decide +kernel
noncomputable def F10_sayingBy_b22 (v1 : Int32) (v2 : Int32) (mm : Mem) : Option (Int32) :=
  (ck (((8 : Int32) * v1) + v2) 64 (some (mm 8 (((8 : Int32) * v1) + v2).toNatClampNeg)))
noncomputable def F10_sayingBy (v1 : Int32) (v2 : Int32) (mm : Mem) : Option (Int32) :=
  (if v2 < (4 : Int32) then (F10_sayingBy_b22 v1 v2 mm) else (ck (((8 : Int32) * v1) + (3 : Int32)) 64 (if (mm 8 (((8 : Int32) * v1) + (3 : Int32)).toNatClampNeg) ≤ (v2 - (4 : Int32)) then some (-1 : Int32) else (F10_sayingBy_b22 v1 v2 mm))))
set_option maxHeartbeats 4000000 in
set_option maxRecDepth 100000 in
theorem kX10_sayingBy (l : Launch) (g : GG) (v1 : Int32) (v2 : Int32) (mc mm : Mem) (q : Int32) (hF : F10_sayingBy v1 v2 mm = some q) : KI l yX10_sayingBy cX10_sayingBy 3 .int 0 0 g [.ref (g.1 108), .int v1, .int v2] mc mm q (mc, mm) := by
  intro sz
  refine x_start (Qc := fun z => QI g z q (mc, mm)) (by decide +kernel) (Nat.le_of_ble_eq_true rfl) ?_ sz
  intro p e s m args below meth c ls Z hr hlk hP hl
  have hx := Z.1.1
  have hb := Z.1.2.1
  have hown := Z.1.2.2.2.1
  have hts := Z.1.2.2.2.2
  have hS : va_S (AA g s.heap.size) s.heap s.heap [] := va_S.rf
  have hl : lv_has ls 3 [(0, .ref (g.1 108)), (1, .int v1), (2, .int v2)] := hl
  unfold F10_sayingBy at hF
  have hb22 : F10_sayingBy_b22 v1 v2 mm = some q → ∀ (H : Heap) (locs : List Loc) (ls : Array Slot), lv_has ls 3 [(0, .ref (g.1 108)), (1, .int v1), (2, .int v2)] → va_P g.2.2.1 vwCl (wL g mc mm) H → va_S (AA g s.heap.size) s.heap H locs → W p l e { frames := 0, cells := 0, slots := 0, locals := 0 } s m args below meth c H locs 0 0 (MQ below (QI g s.heap.size q (mc, mm)) args s 0 0 (AA g s.heap.size)) (F0 m 22 ls []) := by
    intro hF H locs ls hl hP hS
    unfold F10_sayingBy_b22 at hF
    refine lv_aload_n hx hb dX10_sayingBy_22 rfl (lv_at hl 0 rfl) ?_
    refine gf10_10 Z hP wd_6_11 dX10_sayingBy_23 ?_
    refine lv_bipush (v := (8 : Int32)) hx hb dX10_sayingBy_26 bp_8 ?_
    refine lv_iload_n hx hb dX10_sayingBy_28 rfl (lv_at hl 1 rfl) ?_
    refine lv_imul hx hb dX10_sayingBy_29 ?_
    refine lv_iload_n hx hb dX10_sayingBy_30 rfl (lv_at hl 2 rfl) ?_
    refine lv_iadd hx hb dX10_sayingBy_31 ?_
    obtain ⟨hi3, hF⟩ := ck_ok hF
    refine rM_ld Z hP 64 8 (by decide +kernel) hi3 dX10_sayingBy_32 ?_
    refine lv_goto (tgt := 37) hx hb dX10_sayingBy_33 rfl ?_
    exact ret_I Z hr hlk hP hS hF dX10_sayingBy_37
  refine lv_iload_n hx hb dX10_sayingBy_0 rfl (lv_at hl 2 rfl) ?_
  refine lv_iconst (v := (4 : Int32)) hx hb dX10_sayingBy_1 ic_4 ?_
  refine lv_icmp_lt (tgt := 22) hx hb dX10_sayingBy_2 rfl (fun hc => ?_) (fun hc => ?_)
  · have hF := (if_pos hc).symm.trans hF
    exact hb22  hF _ _ _ (lv_sub hl [0, 1, 2] rfl) hP hS
  · have hF := (if_neg hc).symm.trans hF
    refine lv_iload_n hx hb dX10_sayingBy_5 rfl (lv_at hl 2 rfl) ?_
    refine lv_iconst (v := (4 : Int32)) hx hb dX10_sayingBy_6 ic_4 ?_
    refine lv_isub hx hb dX10_sayingBy_7 ?_
    refine lv_aload_n hx hb dX10_sayingBy_8 rfl (lv_at hl 0 rfl) ?_
    refine gf10_10 Z hP wd_6_11 dX10_sayingBy_9 ?_
    refine lv_bipush (v := (8 : Int32)) hx hb dX10_sayingBy_12 bp_8 ?_
    refine lv_iload_n hx hb dX10_sayingBy_14 rfl (lv_at hl 1 rfl) ?_
    refine lv_imul hx hb dX10_sayingBy_15 ?_
    refine lv_iconst (v := (3 : Int32)) hx hb dX10_sayingBy_16 ic_3 ?_
    refine lv_iadd hx hb dX10_sayingBy_17 ?_
    obtain ⟨hi4, hF⟩ := ck_ok hF
    refine rM_ld Z hP 64 8 (by decide +kernel) hi4 dX10_sayingBy_18 ?_
    refine lv_icmp_ge (tgt := 36) hx hb dX10_sayingBy_19 rfl (fun hc => ?_) (fun hc => ?_)
    · have hF := (if_pos hc).symm.trans hF
      refine lv_iconst (v := (-1 : Int32)) hx hb dX10_sayingBy_36 ic_m1 ?_
      exact ret_I Z hr hlk hP hS hF dX10_sayingBy_37
    · have hF := (if_neg hc).symm.trans hF
      exact hb22  hF _ _ _ (lv_sub hl [0, 1, 2] rfl) hP hS
theorem xX10_sayingBy {p : Program} {l : Launch} {e : Env} {R : Room} {s : State} {m : MethodId} {args : Array Value} {below : List Frame} {meth : Method} {c : Code} {H : Heap} {locs : List Loc} {Q : State → Prop} {cc : ByteArray} {nL : Nat} {own : String} {g : GG} {pc index : Nat} {ls : Array Slot} {rest : List Value} {mc mm : Mem} (Z : ZZ p s m args c cc nL own g) (hP : va_P g.2.2.1 vwCl (wL g mc mm) H) (hS : va_S (AA g s.heap.size) s.heap H locs) {v1 : Int32} {v2 : Int32} {q : Int32} (hq : F10_sayingBy v1 v2 mm = some q) (hlk : Cond.methodLink own index yX10_sayingBy ∈ wsL_law) (hsz : ls.size = nL) (hro : (rest.map fun v => v.category).sum ≤ 8) (hR : 0 + 1 ≤ R.frames ∧ 8 + (3 + 11) + 0 ≤ R.locals) (hdg : decode cc pc = .ok (.invokevirtual index, 3)) (kk : ∀ (H : Heap) (locs : List Loc), va_P g.2.2.1 vwCl (wL g mc mm) H → va_S (AA g s.heap.size) s.heap H locs → W p l e R s m args below meth c H locs 0 0 Q (F0 m (pc + 3) ls (.int q :: rest))) : W p l e R s m args below meth c H locs 0 0 Q (F0 m pc ls (.int v2 :: .int v1 :: .ref (g.1 108) :: rest)) :=
  x_VI Z hP hS (kX10_sayingBy l g v1 v2 mc mm q hq) (mO) (ci := 10) (by decide) rfl rfl mf_X10_sayingBy mv_X10_sayingBy hlk rfl rfl hsz hro hR hdg kk

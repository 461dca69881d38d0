theorem dX9_countHeard_0 : decode cX9_countHeard 0 = .ok (.aload_n 0, 1) := by decide +kernel
theorem dX9_countHeard_1 : decode cX9_countHeard 1 = .ok (.getfield 88, 3) := by decide +kernel
theorem dX9_countHeard_4 : decode cX9_countHeard 4 = .ok (.iconst 0, 1) := by decide +kernel
theorem dX9_countHeard_5 : decode cX9_countHeard 5 = .ok (.invokestatic 393, 3) := by decide +kernel
theorem dX9_countHeard_8 : decode cX9_countHeard 8 = .ok (.aload_n 0, 1) := by decide +kernel
theorem dX9_countHeard_9 : decode cX9_countHeard 9 = .ok (.getfield 56, 3) := by decide +kernel
theorem dX9_countHeard_12 : decode cX9_countHeard 12 = .ok (.getfield 398, 3) := by decide +kernel
theorem dX9_countHeard_15 : decode cX9_countHeard 15 = .ok (.iload_n 1, 1) := by decide +kernel
theorem dX9_countHeard_16 : decode cX9_countHeard 16 = .ok (.iaload, 1) := by decide +kernel
theorem dX9_countHeard_17 : decode cX9_countHeard 17 = .ok (.iload_n 2, 1) := by decide +kernel
theorem dX9_countHeard_18 : decode cX9_countHeard 18 = .ok (.ishr, 1) := by decide +kernel
theorem dX9_countHeard_19 : decode cX9_countHeard 19 = .ok (.iconst 1, 1) := by decide +kernel
theorem dX9_countHeard_20 : decode cX9_countHeard 20 = .ok (.iand, 1) := by decide +kernel
theorem dX9_countHeard_21 : decode cX9_countHeard 21 = .ok (.ifCond .ne 7, 3) := by decide +kernel
theorem dX9_countHeard_24 : decode cX9_countHeard 24 = .ok (.iconst 1, 1) := by decide +kernel
theorem dX9_countHeard_25 : decode cX9_countHeard 25 = .ok (.goto 4, 3) := by decide +kernel
theorem dX9_countHeard_28 : decode cX9_countHeard 28 = .ok (.iconst 0, 1) := by decide +kernel
theorem dX9_countHeard_29 : decode cX9_countHeard 29 = .ok (.istore_n 3, 1) := by decide +kernel
theorem dX9_countHeard_30 : decode cX9_countHeard 30 = .ok (.iload_n 3, 1) := by decide +kernel
theorem dX9_countHeard_31 : decode cX9_countHeard 31 = .ok (.ifCond .eq 18, 3) := by decide +kernel
theorem dX9_countHeard_34 : decode cX9_countHeard 34 = .ok (.aload_n 0, 1) := by decide +kernel
theorem dX9_countHeard_35 : decode cX9_countHeard 35 = .ok (.getfield 56, 3) := by decide +kernel
theorem dX9_countHeard_38 : decode cX9_countHeard 38 = .ok (.getfield 398, 3) := by decide +kernel
theorem dX9_countHeard_41 : decode cX9_countHeard 41 = .ok (.iload_n 1, 1) := by decide +kernel
theorem dX9_countHeard_42 : decode cX9_countHeard 42 = .ok (.dup2, 1) := by decide +kernel
theorem dX9_countHeard_43 : decode cX9_countHeard 43 = .ok (.iaload, 1) := by decide +kernel
theorem dX9_countHeard_44 : decode cX9_countHeard 44 = .ok (.iconst 1, 1) := by decide +kernel
theorem dX9_countHeard_45 : decode cX9_countHeard 45 = .ok (.iload_n 2, 1) := by decide +kernel
theorem dX9_countHeard_46 : decode cX9_countHeard 46 = .ok (.ishl, 1) := by decide +kernel
theorem dX9_countHeard_47 : decode cX9_countHeard 47 = .ok (.ior, 1) := by decide +kernel
theorem dX9_countHeard_48 : decode cX9_countHeard 48 = .ok (.iastore, 1) := by decide +kernel
theorem dX9_countHeard_49 : decode cX9_countHeard 49 = .ok (.iconst 0, 1) := by decide +kernel
theorem dX9_countHeard_50 : decode cX9_countHeard 50 = .ok (.istore 4, 2) := by decide +kernel
theorem dX9_countHeard_52 : decode cX9_countHeard 52 = .ok (.iload 4, 2) := by decide +kernel
theorem dX9_countHeard_54 : decode cX9_countHeard 54 = .ok (.aload_n 0, 1) := by decide +kernel
theorem dX9_countHeard_55 : decode cX9_countHeard 55 = .ok (.getfield 28, 3) := by decide +kernel
theorem dX9_countHeard_58 : decode cX9_countHeard 58 = .ok (.getfield 134, 3) := by decide +kernel
theorem dX9_countHeard_61 : decode cX9_countHeard 61 = .ok (.if_icmp .ge 127, 3) := by decide +kernel
theorem dX9_countHeard_64 : decode cX9_countHeard 64 = .ok (.aload_n 0, 1) := by decide +kernel
theorem dX9_countHeard_65 : decode cX9_countHeard 65 = .ok (.getfield 63, 3) := by decide +kernel
theorem dX9_countHeard_68 : decode cX9_countHeard 68 = .ok (.iload 4, 2) := by decide +kernel
theorem dX9_countHeard_70 : decode cX9_countHeard 70 = .ok (.aaload, 1) := by decide +kernel
theorem dX9_countHeard_71 : decode cX9_countHeard 71 = .ok (.astore 5, 2) := by decide +kernel
theorem dX9_countHeard_73 : decode cX9_countHeard 73 = .ok (.iload_n 3, 1) := by decide +kernel
theorem dX9_countHeard_74 : decode cX9_countHeard 74 = .ok (.ifCond .eq 67, 3) := by decide +kernel
theorem dX9_countHeard_77 : decode cX9_countHeard 77 = .ok (.iload_n 1, 1) := by decide +kernel
theorem dX9_countHeard_78 : decode cX9_countHeard 78 = .ok (.ifCond .le 63, 3) := by decide +kernel
theorem dX9_countHeard_81 : decode cX9_countHeard 81 = .ok (.aload 5, 2) := by decide +kernel
theorem dX9_countHeard_83 : decode cX9_countHeard 83 = .ok (.getfield 179, 3) := by decide +kernel
theorem dX9_countHeard_86 : decode cX9_countHeard 86 = .ok (.iload_n 1, 1) := by decide +kernel
theorem dX9_countHeard_87 : decode cX9_countHeard 87 = .ok (.iconst 1, 1) := by decide +kernel
theorem dX9_countHeard_88 : decode cX9_countHeard 88 = .ok (.isub, 1) := by decide +kernel
theorem dX9_countHeard_89 : decode cX9_countHeard 89 = .ok (.iaload, 1) := by decide +kernel
theorem dX9_countHeard_90 : decode cX9_countHeard 90 = .ok (.iload_n 2, 1) := by decide +kernel
theorem dX9_countHeard_91 : decode cX9_countHeard 91 = .ok (.if_icmp .ne 50, 3) := by decide +kernel
theorem dX9_countHeard_94 : decode cX9_countHeard 94 = .ok (.aload_n 0, 1) := by decide +kernel
theorem dX9_countHeard_95 : decode cX9_countHeard 95 = .ok (.getfield 80, 3) := by decide +kernel
theorem dX9_countHeard_98 : decode cX9_countHeard 98 = .ok (.aload_n 0, 1) := by decide +kernel
theorem dX9_countHeard_99 : decode cX9_countHeard 99 = .ok (.getfield 21, 3) := by decide +kernel
theorem dX9_countHeard_102 : decode cX9_countHeard 102 = .ok (.aload_n 0, 1) := by decide +kernel
theorem dX9_countHeard_103 : decode cX9_countHeard 103 = .ok (.getfield 56, 3) := by decide +kernel
theorem dX9_countHeard_106 : decode cX9_countHeard 106 = .ok (.aload_n 0, 1) := by decide +kernel
theorem dX9_countHeard_107 : decode cX9_countHeard 107 = .ok (.getfield 28, 3) := by decide +kernel
theorem dX9_countHeard_110 : decode cX9_countHeard 110 = .ok (.iload 4, 2) := by decide +kernel
theorem dX9_countHeard_112 : decode cX9_countHeard 112 = .ok (.aload_n 0, 1) := by decide +kernel
theorem dX9_countHeard_113 : decode cX9_countHeard 113 = .ok (.getfield 28, 3) := by decide +kernel
theorem dX9_countHeard_116 : decode cX9_countHeard 116 = .ok (.getfield 138, 3) := by decide +kernel
theorem dX9_countHeard_119 : decode cX9_countHeard 119 = .ok (.iload 4, 2) := by decide +kernel
theorem dX9_countHeard_121 : decode cX9_countHeard 121 = .ok (.iaload, 1) := by decide +kernel
theorem dX9_countHeard_122 : decode cX9_countHeard 122 = .ok (.aload_n 0, 1) := by decide +kernel
theorem dX9_countHeard_123 : decode cX9_countHeard 123 = .ok (.getfield 28, 3) := by decide +kernel
theorem dX9_countHeard_126 : decode cX9_countHeard 126 = .ok (.getfield 141, 3) := by decide +kernel
theorem dX9_countHeard_129 : decode cX9_countHeard 129 = .ok (.iload 4, 2) := by decide +kernel
theorem dX9_countHeard_131 : decode cX9_countHeard 131 = .ok (.iaload, 1) := by decide +kernel
theorem dX9_countHeard_132 : decode cX9_countHeard 132 = .ok (.invokevirtual 198, 3) := by decide +kernel
theorem dX9_countHeard_135 : decode cX9_countHeard 135 = .ok (.aload_n 0, 1) := by decide +kernel
theorem dX9_countHeard_136 : decode cX9_countHeard 136 = .ok (.getfield 80, 3) := by decide +kernel
theorem dX9_countHeard_139 : decode cX9_countHeard 139 = .ok (.astore 5, 2) := by decide +kernel
theorem dX9_countHeard_141 : decode cX9_countHeard 141 = .ok (.iconst 0, 1) := by decide +kernel
theorem dX9_countHeard_142 : decode cX9_countHeard 142 = .ok (.istore 6, 2) := by decide +kernel
theorem dX9_countHeard_144 : decode cX9_countHeard 144 = .ok (.iload 6, 2) := by decide +kernel
theorem dX9_countHeard_146 : decode cX9_countHeard 146 = .ok (.aload_n 0, 1) := by decide +kernel
theorem dX9_countHeard_147 : decode cX9_countHeard 147 = .ok (.getfield 21, 3) := by decide +kernel
theorem dX9_countHeard_150 : decode cX9_countHeard 150 = .ok (.getfield 119, 3) := by decide +kernel
theorem dX9_countHeard_153 : decode cX9_countHeard 153 = .ok (.if_icmp .ge 29, 3) := by decide +kernel
theorem dX9_countHeard_156 : decode cX9_countHeard 156 = .ok (.aload_n 0, 1) := by decide +kernel
theorem dX9_countHeard_157 : decode cX9_countHeard 157 = .ok (.getfield 88, 3) := by decide +kernel
theorem dX9_countHeard_160 : decode cX9_countHeard 160 = .ok (.iload 6, 2) := by decide +kernel
theorem dX9_countHeard_162 : decode cX9_countHeard 162 = .ok (.dup2, 1) := by decide +kernel
theorem dX9_countHeard_163 : decode cX9_countHeard 163 = .ok (.iaload, 1) := by decide +kernel
theorem dX9_countHeard_164 : decode cX9_countHeard 164 = .ok (.aload 5, 2) := by decide +kernel
theorem dX9_countHeard_166 : decode cX9_countHeard 166 = .ok (.getfield 401, 3) := by decide +kernel
theorem dX9_countHeard_169 : decode cX9_countHeard 169 = .ok (.iload 6, 2) := by decide +kernel
theorem dX9_countHeard_171 : decode cX9_countHeard 171 = .ok (.ishr, 1) := by decide +kernel
theorem dX9_countHeard_172 : decode cX9_countHeard 172 = .ok (.iconst 1, 1) := by decide +kernel
theorem dX9_countHeard_173 : decode cX9_countHeard 173 = .ok (.iand, 1) := by decide +kernel
theorem dX9_countHeard_174 : decode cX9_countHeard 174 = .ok (.iadd, 1) := by decide +kernel
theorem dX9_countHeard_175 : decode cX9_countHeard 175 = .ok (.iastore, 1) := by decide +kernel
theorem dX9_countHeard_176 : decode cX9_countHeard 176 = .ok (.iinc 6 1, 3) := by decide +kernel
theorem dX9_countHeard_179 : decode cX9_countHeard 179 = .ok (.goto (-35), 3) := by decide +kernel
theorem dX9_countHeard_182 : decode cX9_countHeard 182 = .ok (.iinc 4 1, 3) := by decide +kernel
theorem dX9_countHeard_185 : decode cX9_countHeard 185 = .ok (.goto (-133), 3) := by decide +kernel
theorem dX9_countHeard_188 : decode cX9_countHeard 188 = .ok (.iload_n 3, 1) := by decide +kernel
theorem dX9_countHeard_189 : decode cX9_countHeard 189 = .ok (.ifCond .eq 20, 3) := by decide +kernel
theorem dX9_countHeard_192 : decode cX9_countHeard 192 = .ok (.aload_n 0, 1) := by decide +kernel
theorem dX9_countHeard_193 : decode cX9_countHeard 193 = .ok (.getfield 56, 3) := by decide +kernel
theorem dX9_countHeard_196 : decode cX9_countHeard 196 = .ok (.getfield 398, 3) := by decide +kernel
theorem dX9_countHeard_199 : decode cX9_countHeard 199 = .ok (.iload_n 1, 1) := by decide +kernel
theorem dX9_countHeard_200 : decode cX9_countHeard 200 = .ok (.dup2, 1) := by decide +kernel
theorem dX9_countHeard_201 : decode cX9_countHeard 201 = .ok (.iaload, 1) := by decide +kernel
theorem dX9_countHeard_202 : decode cX9_countHeard 202 = .ok (.iconst 1, 1) := by decide +kernel
theorem dX9_countHeard_203 : decode cX9_countHeard 203 = .ok (.iload_n 2, 1) := by decide +kernel
theorem dX9_countHeard_204 : decode cX9_countHeard 204 = .ok (.ishl, 1) := by decide +kernel
theorem dX9_countHeard_205 : decode cX9_countHeard 205 = .ok (.iconst (-1), 1) := by decide +kernel
theorem dX9_countHeard_206 : decode cX9_countHeard 206 = .ok (.ixor, 1) := by decide +kernel
theorem dX9_countHeard_207 : decode cX9_countHeard 207 = .ok (.iand, 1) := by decide +kernel
theorem dX9_countHeard_208 : decode cX9_countHeard 208 = .ok (.iastore, 1) := by decide +kernel
theorem dX9_countHeard_209 : decode cX9_countHeard 209 = .ok (.return_, 1) := by decide +kernel
noncomputable def F9_countHeard_b188 (v1 : Int32) (v2 : Int32) (a3 : Int32) (M : Mem) : Option (Mem) :=
  (if a3 = (0 : Int32) then some M else (ck v1 40 (ck v1 40 (some (mset M 35 v1.toNatClampNeg ((M 35 v1.toNatClampNeg) &&& (((1 : Int32) <<< (v2 &&& (31 : Int32))) ^^^ (-1 : Int32))))))))
noncomputable def F9_countHeard_b182 (kh : Int32 → Int32 → Mem → Option (Mem)) (kx188 : Int32 → Mem → Option (Mem)) (v1 : Int32) (v2 : Int32) (a3 : Int32) (a4 : Int32) (M : Mem) : Option (Mem) :=
  kh a3 (a4 + (1 : Int32)) M
noncomputable def F9_countHeard_p144 (kh : Int32 → Int32 → Nat → Int32 → Mem → Option (Mem)) (kx182 : Int32 → Int32 → Mem → Option (Mem)) (v1 : Int32) (v2 : Int32) (a3 : Int32) (a4 : Int32) (a5 : Nat) (a6 : Int32) (M : Mem) : Option (Mem) :=
  (if (M 6 4) ≤ a6 then kx182 a3 a4 M else (ck a6 9 (ck a6 9 (kh a3 a4 a5 (a6 + (1 : Int32)) (mset M 98 a6.toNatClampNeg ((M 98 a6.toNatClampNeg) + (((M a5 4) >>> (a6 &&& (31 : Int32))) &&& (1 : Int32))))))))
noncomputable def F9_countHeard_h144 (kx182 : Int32 → Int32 → Mem → Option (Mem)) (v1 : Int32) (v2 : Int32) : Nat → Int32 → Int32 → Nat → Int32 → Mem → Option (Mem)
  | 0, _, _, _, _, _ => none
  | n + 1, a3, a4, a5, a6, M => F9_countHeard_p144 (F9_countHeard_h144 kx182 v1 v2 n) kx182 v1 v2 a3 a4 a5 a6 M
noncomputable def F9_countHeard_b141 (kh : Int32 → Int32 → Mem → Option (Mem)) (kx188 : Int32 → Mem → Option (Mem)) (v1 : Int32) (v2 : Int32) (a3 : Int32) (a4 : Int32) (a5 : Nat) (M : Mem) : Option (Mem) :=
  (F9_countHeard_h144 (F9_countHeard_b182 kh kx188 v1 v2) v1 v2 FU) a3 a4 a5 (0 : Int32) M
noncomputable def F9_countHeard_p52 (kh : Int32 → Int32 → Mem → Option (Mem)) (kx188 : Int32 → Mem → Option (Mem)) (v1 : Int32) (v2 : Int32) (a3 : Int32) (a4 : Int32) (M : Mem) : Option (Mem) :=
  (if (M 11 5) ≤ a4 then kx188 a3 M else (ck a4 8 (if a3 = (0 : Int32) then (F9_countHeard_b141 kh kx188 v1 v2) a3 a4 (39 + 5 * a4.toNatClampNeg) M else (if v1 ≤ (0 : Int32) then (F9_countHeard_b141 kh kx188 v1 v2) a3 a4 (39 + 5 * a4.toNatClampNeg) M else (ck (v1 - (1 : Int32)) 40 (if (M ((39 + 5 * a4.toNatClampNeg) + 1) (v1 - (1 : Int32)).toNatClampNeg) = v2 then (ck a4 8 (ck a4 8 ((F4_follow 92 6 34 11 a4 (M 13 a4.toNatClampNeg) (M 14 a4.toNatClampNeg) M).bind (fun q22 => ((F9_countHeard_b141 kh kx188 v1 v2) a3 a4 92 q22))))) else (F9_countHeard_b141 kh kx188 v1 v2) a3 a4 (39 + 5 * a4.toNatClampNeg) M))))))
noncomputable def F9_countHeard_h52 (kx188 : Int32 → Mem → Option (Mem)) (v1 : Int32) (v2 : Int32) : Nat → Int32 → Int32 → Mem → Option (Mem)
  | 0, _, _, _ => none
  | n + 1, a3, a4, M => F9_countHeard_p52 (F9_countHeard_h52 kx188 v1 v2 n) kx188 v1 v2 a3 a4 M
noncomputable def F9_countHeard_b49 (v1 : Int32) (v2 : Int32) (a3 : Int32) (M : Mem) : Option (Mem) :=
  (F9_countHeard_h52 (F9_countHeard_b188 v1 v2) v1 v2 FU) a3 (0 : Int32) M
noncomputable def F9_countHeard_b29 (v1 : Int32) (v2 : Int32) (s0 : Int32) (M : Mem) : Option (Mem) :=
  (if s0 = (0 : Int32) then (F9_countHeard_b49 v1 v2) s0 M else (ck v1 40 (ck v1 40 ((F9_countHeard_b49 v1 v2) s0 (mset M 35 v1.toNatClampNeg ((M 35 v1.toNatClampNeg) ||| ((1 : Int32) <<< (v2 &&& (31 : Int32)))))))))
noncomputable def F9_countHeard (v1 : Int32) (v2 : Int32) (mc : Mem) : Option (Mem) :=
  ((F7_fill_53178 98 (0 : Int32) mc).bind (fun q25 => (ck v1 40 (if (((q25 35 v1.toNatClampNeg) >>> (v2 &&& (31 : Int32))) &&& (1 : Int32)) = (0 : Int32) then (F9_countHeard_b29 v1 v2) (1 : Int32) q25 else (F9_countHeard_b29 v1 v2) (0 : Int32) q25))))
set_option maxHeartbeats 4000000 in
set_option maxRecDepth 100000 in
theorem kX9_countHeard (l : Launch) (g : GG) (v1 : Int32) (v2 : Int32) (mc mm : Mem) (q : Mem) (hF : F9_countHeard v1 v2 mc = some q) : KV l yX9_countHeard cX9_countHeard 7 2 56 g [.ref (g.1 0), .int v1, .int v2] mc mm (q, mm) := by
  intro sz
  refine x_start (Qc := fun z => QV g z (q, mm)) (by decide +kernel) (Nat.le_of_ble_eq_true rfl) ?_ sz
  intro p e s m args below meth c ls Z hr hlk hP hl
  have hx := Z.1.1
  have hb := Z.1.2.1
  have hown := Z.1.2.2.2.1
  have hts := Z.1.2.2.2.2
  have hS : va_S (AA g s.heap.size) s.heap s.heap [] := va_S.rf
  have hl : lv_has ls 7 [(0, .ref (g.1 0)), (1, .int v1), (2, .int v2)] := hl
  unfold F9_countHeard at hF
  have hb188 : ∀ (a3 : Int32) (M : Mem), F9_countHeard_b188 v1 v2 a3 M = some q → ∀ (H : Heap) (locs : List Loc) (ls : Array Slot), lv_has ls 7 [(0, .ref (g.1 0)), (1, .int v1), (2, .int v2), (3, .int a3)] → va_P g.2.2.1 vwCl (wL g M mm) H → va_S (AA g s.heap.size) s.heap H locs → W p l e { frames := 2, cells := 0, slots := 0, locals := 56 } s m args below meth c H locs 0 0 (MQ below (QV g s.heap.size (q, mm)) args s 0 0 (AA g s.heap.size)) (F0 m 188 ls []) := by
    intro a3 M hF H locs ls hl hP hS
    unfold F9_countHeard_b188 at hF
    refine lv_iload_n hx hb dX9_countHeard_188 rfl (lv_at hl 3 rfl) ?_
    refine lv_if_eq (tgt := 209) hx hb dX9_countHeard_189 rfl (fun hc => ?_) (fun hc => ?_)
    · have hF := (if_pos hc).symm.trans hF
      exact ret_VWC Z hr hlk hP hS hF dX9_countHeard_209
    · have hF := (if_neg hc).symm.trans hF
      refine lv_aload_n hx hb dX9_countHeard_192 rfl (lv_at hl 0 rfl) ?_
      refine gf9_7 Z hP wd_2_15 dX9_countHeard_193 ?_
      refine gf3_0N Z hP ck_34 nf_25 dX9_countHeard_196 ?_
      refine lv_iload_n hx hb dX9_countHeard_199 rfl (lv_at hl 1 rfl) ?_
      refine lv_dup2_11 hx hb dX9_countHeard_200 rfl rfl ?_
      obtain ⟨hi14, hF⟩ := ck_ok hF
      refine ra_ld Z hP (ia_3_0 ck_34) hi14 dX9_countHeard_201 ?_
      refine lv_iconst (v := (1 : Int32)) hx hb dX9_countHeard_202 ic_1 ?_
      refine lv_iload_n hx hb dX9_countHeard_203 rfl (lv_at hl 2 rfl) ?_
      refine lv_ishl hx hb dX9_countHeard_204 ?_
      refine lv_iconst (v := (-1 : Int32)) hx hb dX9_countHeard_205 ic_m1 ?_
      refine lv_ixor hx hb dX9_countHeard_206 ?_
      refine lv_iand hx hb dX9_countHeard_207 ?_
      obtain ⟨hi15, hF⟩ := ck_ok hF
      refine ra_st Z hP hS (ia_3_0 ck_34) hi15 dX9_countHeard_208 (fun H locs hP hS => ?_)
      exact ret_VWC Z hr hlk hP hS hF dX9_countHeard_209
  have hL52 : ∀ (kx188 : Int32 → Mem → Option (Mem)), (∀ (a3 : Int32) (M : Mem), kx188 a3 M = some q → ∀ (H : Heap) (locs : List Loc) (ls : Array Slot), lv_has ls 7 [(0, .ref (g.1 0)), (1, .int v1), (2, .int v2), (3, .int a3)] → va_P g.2.2.1 vwCl (wL g M mm) H → va_S (AA g s.heap.size) s.heap H locs → W p l e { frames := 2, cells := 0, slots := 0, locals := 56 } s m args below meth c H locs 0 0 (MQ below (QV g s.heap.size (q, mm)) args s 0 0 (AA g s.heap.size)) (F0 m 188 ls [])) → ∀ n : Nat, ∀ (a3 : Int32) (a4 : Int32) (M : Mem), F9_countHeard_h52 kx188 v1 v2 n a3 a4 M = some q → ∀ (H : Heap) (locs : List Loc) (ls : Array Slot), lv_has ls 7 [(0, .ref (g.1 0)), (1, .int v1), (2, .int v2), (3, .int a3), (4, .int a4)] → va_P g.2.2.1 vwCl (wL g M mm) H → va_S (AA g s.heap.size) s.heap H locs → W p l e { frames := 2, cells := 0, slots := 0, locals := 56 } s m args below meth c H locs 0 0 (MQ below (QV g s.heap.size (q, mm)) args s 0 0 (AA g s.heap.size)) (F0 m 52 ls []) := by
    intro kx188 hx188 n
    induction n with
    | zero => intro a3 a4 M hF H locs ls hl hP hS; exact absurd hF (fun z => nomatch (show (none : Option _) = some q from z))
    | succ n ih =>
      generalize hkh : F9_countHeard_h52 kx188 v1 v2 n = kh at ih
      have hb182 : ∀ (a3 : Int32) (a4 : Int32) (M : Mem), F9_countHeard_b182 kh kx188 v1 v2 a3 a4 M = some q → ∀ (H : Heap) (locs : List Loc) (ls : Array Slot), lv_has ls 7 [(0, .ref (g.1 0)), (1, .int v1), (2, .int v2), (3, .int a3), (4, .int a4)] → va_P g.2.2.1 vwCl (wL g M mm) H → va_S (AA g s.heap.size) s.heap H locs → W p l e { frames := 2, cells := 0, slots := 0, locals := 56 } s m args below meth c H locs 0 0 (MQ below (QV g s.heap.size (q, mm)) args s 0 0 (AA g s.heap.size)) (F0 m 182 ls []) := by
        intro a3 a4 M hF H locs ls hl hP hS
        unfold F9_countHeard_b182 at hF
        refine lv_iinc (lv' := [(4, .int (a4 + (1 : Int32))), (0, .ref (g.1 0)), (1, .int v1), (2, .int v2), (3, .int a3)]) (v := (a4 + (1 : Int32))) hx hb dX9_countHeard_182 hl (k := 4) rfl (io_1 _) (Nat.le_of_ble_eq_true rfl) rfl (fun ls hl => ?_)
        refine lv_goto (tgt := 52) hx hb dX9_countHeard_185 rfl ?_
        exact ih _ _ _ hF _ _ _ (lv_sub hl [1, 2, 3, 4, 0] rfl) hP hS
      have hL144 : ∀ (kx182 : Int32 → Int32 → Mem → Option (Mem)), (∀ (a3 : Int32) (a4 : Int32) (M : Mem), kx182 a3 a4 M = some q → ∀ (H : Heap) (locs : List Loc) (ls : Array Slot), lv_has ls 7 [(0, .ref (g.1 0)), (1, .int v1), (2, .int v2), (3, .int a3), (4, .int a4)] → va_P g.2.2.1 vwCl (wL g M mm) H → va_S (AA g s.heap.size) s.heap H locs → W p l e { frames := 2, cells := 0, slots := 0, locals := 56 } s m args below meth c H locs 0 0 (MQ below (QV g s.heap.size (q, mm)) args s 0 0 (AA g s.heap.size)) (F0 m 182 ls [])) → ∀ n : Nat, ∀ (a3 : Int32) (a4 : Int32) (a5 : Nat) (a6 : Int32) (M : Mem), F9_countHeard_h144 kx182 v1 v2 n a3 a4 a5 a6 M = some q → isO 4 a5 → ∀ (H : Heap) (locs : List Loc) (ls : Array Slot), lv_has ls 7 [(0, .ref (g.1 0)), (1, .int v1), (2, .int v2), (3, .int a3), (4, .int a4), (5, .ref (g.1 a5)), (6, .int a6)] → va_P g.2.2.1 vwCl (wL g M mm) H → va_S (AA g s.heap.size) s.heap H locs → W p l e { frames := 2, cells := 0, slots := 0, locals := 56 } s m args below meth c H locs 0 0 (MQ below (QV g s.heap.size (q, mm)) args s 0 0 (AA g s.heap.size)) (F0 m 144 ls []) := by
        intro kx182 hx182 n
        induction n with
        | zero => intro a3 a4 a5 a6 M hF h_a5 H locs ls hl hP hS; exact absurd hF (fun z => nomatch (show (none : Option _) = some q from z))
        | succ n ih =>
          generalize hkh : F9_countHeard_h144 kx182 v1 v2 n = kh at ih
          intro a3 a4 a5 a6 M hF h_a5 H locs ls hl hP hS
          have hF : F9_countHeard_p144 (F9_countHeard_h144 kx182 v1 v2 n) kx182 v1 v2 a3 a4 a5 a6 M = some q := hF
          rw [hkh] at hF
          unfold F9_countHeard_p144 at hF
          refine lv_iload hx hb dX9_countHeard_144 (lv_at hl 6 rfl) ?_
          refine lv_aload_n hx hb dX9_countHeard_146 rfl (lv_at hl 0 rfl) ?_
          refine gf9_1 Z hP wd_1_19 dX9_countHeard_147 ?_
          refine gf8_4N Z hP ck_6 nf_2 dX9_countHeard_150 ?_
          refine lv_icmp_ge (tgt := 182) hx hb dX9_countHeard_153 rfl (fun hc => ?_) (fun hc => ?_)
          · have hF := (if_pos hc).symm.trans hF
            exact hx182 _ _ _ hF _ _ _ (lv_sub hl [0, 1, 2, 3, 4] rfl) hP hS
          · have hF := (if_neg hc).symm.trans hF
            refine lv_aload_n hx hb dX9_countHeard_156 rfl (lv_at hl 0 rfl) ?_
            refine gf9_15 Z hP wd_3_3 dX9_countHeard_157 ?_
            refine lv_iload hx hb dX9_countHeard_160 (lv_at hl 6 rfl) ?_
            refine lv_dup2_11 hx hb dX9_countHeard_162 rfl rfl ?_
            obtain ⟨hi16, hF⟩ := ck_ok hF
            refine ra_ld Z hP ck_98 hi16 dX9_countHeard_163 ?_
            refine lv_aload hx hb dX9_countHeard_164 (lv_at hl 5 rfl) ?_
            refine gf4_4N Z hP h_a5 nf_26 dX9_countHeard_166 ?_
            refine lv_iload hx hb dX9_countHeard_169 (lv_at hl 6 rfl) ?_
            refine lv_ishr hx hb dX9_countHeard_171 ?_
            refine lv_iconst (v := (1 : Int32)) hx hb dX9_countHeard_172 ic_1 ?_
            refine lv_iand hx hb dX9_countHeard_173 ?_
            refine lv_iadd hx hb dX9_countHeard_174 ?_
            obtain ⟨hi17, hF⟩ := ck_ok hF
            refine ra_st Z hP hS ck_98 hi17 dX9_countHeard_175 (fun H locs hP hS => ?_)
            refine lv_iinc (lv' := [(6, .int (a6 + (1 : Int32))), (0, .ref (g.1 0)), (1, .int v1), (2, .int v2), (3, .int a3), (4, .int a4), (5, .ref (g.1 a5))]) (v := (a6 + (1 : Int32))) hx hb dX9_countHeard_176 hl (k := 6) rfl (io_1 _) (Nat.le_of_ble_eq_true rfl) rfl (fun ls hl => ?_)
            refine lv_goto (tgt := 144) hx hb dX9_countHeard_179 rfl ?_
            exact ih _ _ _ _ _ hF h_a5 _ _ _ (lv_sub hl [1, 2, 3, 4, 5, 6, 0] rfl) hP hS
      have hb141 : ∀ (a3 : Int32) (a4 : Int32) (a5 : Nat) (M : Mem), F9_countHeard_b141 kh kx188 v1 v2 a3 a4 a5 M = some q → isO 4 a5 → ∀ (H : Heap) (locs : List Loc) (ls : Array Slot), lv_has ls 7 [(0, .ref (g.1 0)), (1, .int v1), (2, .int v2), (3, .int a3), (4, .int a4), (5, .ref (g.1 a5))] → va_P g.2.2.1 vwCl (wL g M mm) H → va_S (AA g s.heap.size) s.heap H locs → W p l e { frames := 2, cells := 0, slots := 0, locals := 56 } s m args below meth c H locs 0 0 (MQ below (QV g s.heap.size (q, mm)) args s 0 0 (AA g s.heap.size)) (F0 m 141 ls []) := by
        intro a3 a4 a5 M hF h_a5 H locs ls hl hP hS
        unfold F9_countHeard_b141 at hF
        refine lv_iconst (v := (0 : Int32)) hx hb dX9_countHeard_141 ic_0 ?_
        refine lv_istore (lv' := [(6, .int (0 : Int32)), (0, .ref (g.1 0)), (1, .int v1), (2, .int v2), (3, .int a3), (4, .int a4), (5, .ref (g.1 a5))]) hx hb dX9_countHeard_142 hl (Nat.le_of_ble_eq_true rfl) rfl (fun ls hl => ?_)
        exact (hL144 _ hb182 FU) _ _ _ _ _ hF h_a5 _ _ _ (lv_sub hl [1, 2, 3, 4, 5, 6, 0] rfl) hP hS
      intro a3 a4 M hF H locs ls hl hP hS
      have hF : F9_countHeard_p52 (F9_countHeard_h52 kx188 v1 v2 n) kx188 v1 v2 a3 a4 M = some q := hF
      rw [hkh] at hF
      unfold F9_countHeard_p52 at hF
      refine lv_iload hx hb dX9_countHeard_52 (lv_at hl 4 rfl) ?_
      refine lv_aload_n hx hb dX9_countHeard_54 rfl (lv_at hl 0 rfl) ?_
      refine gf9_2 Z hP wd_1_23 dX9_countHeard_55 ?_
      refine gf5_5N Z hP ck_11 nf_7 dX9_countHeard_58 ?_
      refine lv_icmp_ge (tgt := 188) hx hb dX9_countHeard_61 rfl (fun hc => ?_) (fun hc => ?_)
      · have hF := (if_pos hc).symm.trans hF
        exact hx188 _ _ hF _ _ _ (lv_sub hl [0, 1, 2, 3] rfl) hP hS
      · have hF := (if_neg hc).symm.trans hF
        refine lv_aload_n hx hb dX9_countHeard_64 rfl (lv_at hl 0 rfl) ?_
        refine gf9_8 Z hP wd_2_19 dX9_countHeard_65 ?_
        refine lv_iload hx hb dX9_countHeard_68 (lv_at hl 4 rfl) ?_
        obtain ⟨hi18, hF⟩ := ck_ok hF
        refine rq_24 Z hP hi18 dX9_countHeard_70 ?_
        refine lv_astore (lv' := [(5, .ref (g.1 (39 + 5 * a4.toNatClampNeg))), (0, .ref (g.1 0)), (1, .int v1), (2, .int v2), (3, .int a3), (4, .int a4)]) hx hb dX9_countHeard_71 hl (Nat.le_of_ble_eq_true rfl) rfl (fun ls hl => ?_)
        refine lv_iload_n hx hb dX9_countHeard_73 rfl (lv_at hl 4 rfl) ?_
        refine lv_if_eq (tgt := 141) hx hb dX9_countHeard_74 rfl (fun hc => ?_) (fun hc => ?_)
        · have hF := (if_pos hc).symm.trans hF
          exact hb141 _ _ _ _ hF (ir_24 hi18) _ _ _ (lv_sub hl [1, 2, 3, 4, 5, 0] rfl) hP hS
        · have hF := (if_neg hc).symm.trans hF
          refine lv_iload_n hx hb dX9_countHeard_77 rfl (lv_at hl 2 rfl) ?_
          refine lv_if_le (tgt := 141) hx hb dX9_countHeard_78 rfl (fun hc => ?_) (fun hc => ?_)
          · have hF := (if_pos hc).symm.trans hF
            exact hb141 _ _ _ _ hF (ir_24 hi18) _ _ _ (lv_sub hl [1, 2, 3, 4, 5, 0] rfl) hP hS
          · have hF := (if_neg hc).symm.trans hF
            refine lv_aload hx hb dX9_countHeard_81 (lv_at hl 0 rfl) ?_
            refine gf4_0N Z hP (ir_24 hi18) nf_14 dX9_countHeard_83 ?_
            refine lv_iload_n hx hb dX9_countHeard_86 rfl (lv_at hl 2 rfl) ?_
            refine lv_iconst (v := (1 : Int32)) hx hb dX9_countHeard_87 ic_1 ?_
            refine lv_isub hx hb dX9_countHeard_88 ?_
            obtain ⟨hi19, hF⟩ := ck_ok hF
            refine ra_ld Z hP (ia_4_0 (ir_24 hi18)) hi19 dX9_countHeard_89 ?_
            refine lv_iload_n hx hb dX9_countHeard_90 rfl (lv_at hl 3 rfl) ?_
            refine lv_icmp_ne (tgt := 141) hx hb dX9_countHeard_91 rfl (fun hc => ?_) (fun hc => ?_)
            · have hF := (if_neg hc).symm.trans hF
              exact hb141 _ _ _ _ hF (ir_24 hi18) _ _ _ (lv_sub hl [1, 2, 3, 4, 5, 0] rfl) hP hS
            · have hF := (if_pos hc).symm.trans hF
              refine lv_aload_n hx hb dX9_countHeard_94 rfl (lv_at hl 1 rfl) ?_
              refine gf9_13 Z hP wd_3_0 dX9_countHeard_95 ?_
              refine lv_aload_n hx hb dX9_countHeard_98 rfl (lv_at hl 1 rfl) ?_
              refine gf9_1 Z hP wd_1_19 dX9_countHeard_99 ?_
              refine lv_aload_n hx hb dX9_countHeard_102 rfl (lv_at hl 1 rfl) ?_
              refine gf9_7 Z hP wd_2_15 dX9_countHeard_103 ?_
              refine lv_aload_n hx hb dX9_countHeard_106 rfl (lv_at hl 1 rfl) ?_
              refine gf9_2 Z hP wd_1_23 dX9_countHeard_107 ?_
              refine lv_iload hx hb dX9_countHeard_110 (lv_at hl 5 rfl) ?_
              refine lv_aload_n hx hb dX9_countHeard_112 rfl (lv_at hl 1 rfl) ?_
              refine gf9_2 Z hP wd_1_23 dX9_countHeard_113 ?_
              refine gf5_1N Z hP ck_11 nf_9 dX9_countHeard_116 ?_
              refine lv_iload hx hb dX9_countHeard_119 (lv_at hl 5 rfl) ?_
              obtain ⟨hi20, hF⟩ := ck_ok hF
              refine ra_ld Z hP (ia_5_1 ck_11) hi20 dX9_countHeard_121 ?_
              refine lv_aload_n hx hb dX9_countHeard_122 rfl (lv_at hl 1 rfl) ?_
              refine gf9_2 Z hP wd_1_23 dX9_countHeard_123 ?_
              refine gf5_2N Z hP ck_11 nf_10 dX9_countHeard_126 ?_
              refine lv_iload hx hb dX9_countHeard_129 (lv_at hl 5 rfl) ?_
              obtain ⟨hi21, hF⟩ := ck_ok hF
              refine ra_ld Z hP (ia_5_2 ck_11) hi21 dX9_countHeard_131 ?_
              obtain ⟨q22, hq22, hF⟩ := bd_ok hF
              refine xX4_follow Z hP hS ck_92 ck_6 ck_34 ck_11 hq22 wd_20_22 hl.1 (Nat.le_of_ble_eq_true rfl) ⟨Nat.le_of_ble_eq_true rfl, Nat.le_of_ble_eq_true rfl⟩ dX9_countHeard_132 (fun H locs hP hS => ?_)
              refine lv_aload_n hx hb dX9_countHeard_135 rfl (lv_at hl 1 rfl) ?_
              refine gf9_13 Z hP wd_3_0 dX9_countHeard_136 ?_
              refine lv_astore (lv' := [(5, .ref (g.1 92)), (0, .ref (g.1 0)), (1, .int v1), (2, .int v2), (3, .int a3), (4, .int a4)]) hx hb dX9_countHeard_139 hl (Nat.le_of_ble_eq_true rfl) rfl (fun ls hl => ?_)
              exact hb141 _ _ _ _ hF ck_92 _ _ _ (lv_sub hl [1, 2, 3, 4, 5, 0] rfl) hP hS
  have hb49 : ∀ (a3 : Int32) (M : Mem), F9_countHeard_b49 v1 v2 a3 M = some q → ∀ (H : Heap) (locs : List Loc) (ls : Array Slot), lv_has ls 7 [(0, .ref (g.1 0)), (1, .int v1), (2, .int v2), (3, .int a3)] → va_P g.2.2.1 vwCl (wL g M mm) H → va_S (AA g s.heap.size) s.heap H locs → W p l e { frames := 2, cells := 0, slots := 0, locals := 56 } s m args below meth c H locs 0 0 (MQ below (QV g s.heap.size (q, mm)) args s 0 0 (AA g s.heap.size)) (F0 m 49 ls []) := by
    intro a3 M hF H locs ls hl hP hS
    unfold F9_countHeard_b49 at hF
    refine lv_iconst (v := (0 : Int32)) hx hb dX9_countHeard_49 ic_0 ?_
    refine lv_istore (lv' := [(4, .int (0 : Int32)), (0, .ref (g.1 0)), (1, .int v1), (2, .int v2), (3, .int a3)]) hx hb dX9_countHeard_50 hl (Nat.le_of_ble_eq_true rfl) rfl (fun ls hl => ?_)
    exact (hL52 _ hb188 FU) _ _ _ hF _ _ _ (lv_sub hl [1, 2, 3, 4, 0] rfl) hP hS
  have hb29 : ∀ (s0 : Int32) (M : Mem), F9_countHeard_b29 v1 v2 s0 M = some q → ∀ (H : Heap) (locs : List Loc) (ls : Array Slot), lv_has ls 7 [(0, .ref (g.1 0)), (1, .int v1), (2, .int v2)] → va_P g.2.2.1 vwCl (wL g M mm) H → va_S (AA g s.heap.size) s.heap H locs → W p l e { frames := 2, cells := 0, slots := 0, locals := 56 } s m args below meth c H locs 0 0 (MQ below (QV g s.heap.size (q, mm)) args s 0 0 (AA g s.heap.size)) (F0 m 29 ls [.int s0]) := by
    intro s0 M hF H locs ls hl hP hS
    unfold F9_countHeard_b29 at hF
    refine lv_istore_n (lv' := [(3, .int s0), (0, .ref (g.1 0)), (1, .int v1), (2, .int v2)]) hx hb dX9_countHeard_29 rfl hl (Nat.le_of_ble_eq_true rfl) rfl (fun ls hl => ?_)
    refine lv_iload_n hx hb dX9_countHeard_30 rfl (lv_at hl 0 rfl) ?_
    refine lv_if_eq (tgt := 49) hx hb dX9_countHeard_31 rfl (fun hc => ?_) (fun hc => ?_)
    · have hF := (if_pos hc).symm.trans hF
      exact hb49 _ _ hF _ _ _ (lv_sub hl [1, 2, 3, 0] rfl) hP hS
    · have hF := (if_neg hc).symm.trans hF
      refine lv_aload_n hx hb dX9_countHeard_34 rfl (lv_at hl 1 rfl) ?_
      refine gf9_7 Z hP wd_2_15 dX9_countHeard_35 ?_
      refine gf3_0N Z hP ck_34 nf_25 dX9_countHeard_38 ?_
      refine lv_iload_n hx hb dX9_countHeard_41 rfl (lv_at hl 2 rfl) ?_
      refine lv_dup2_11 hx hb dX9_countHeard_42 rfl rfl ?_
      obtain ⟨hi23, hF⟩ := ck_ok hF
      refine ra_ld Z hP (ia_3_0 ck_34) hi23 dX9_countHeard_43 ?_
      refine lv_iconst (v := (1 : Int32)) hx hb dX9_countHeard_44 ic_1 ?_
      refine lv_iload_n hx hb dX9_countHeard_45 rfl (lv_at hl 3 rfl) ?_
      refine lv_ishl hx hb dX9_countHeard_46 ?_
      refine lv_ior hx hb dX9_countHeard_47 ?_
      obtain ⟨hi24, hF⟩ := ck_ok hF
      refine ra_st Z hP hS (ia_3_0 ck_34) hi24 dX9_countHeard_48 (fun H locs hP hS => ?_)
      exact hb49 _ _ hF _ _ _ (lv_sub hl [1, 2, 3, 0] rfl) hP hS
  refine lv_aload_n hx hb dX9_countHeard_0 rfl (lv_at hl 0 rfl) ?_
  refine gf9_15 Z hP wd_3_3 dX9_countHeard_1 ?_
  refine lv_iconst (v := (0 : Int32)) hx hb dX9_countHeard_4 ic_0 ?_
  obtain ⟨q25, hq25, hF⟩ := bd_ok hF
  refine xJ7_fill_53178 Z hP hS (isA_ln ck_98) hq25 wd_28_18 hl.1 (Nat.le_of_ble_eq_true rfl) ⟨Nat.le_of_ble_eq_true rfl, Nat.le_of_ble_eq_true rfl⟩ dX9_countHeard_5 (fun H locs hP hS => ?_)
  refine lv_aload_n hx hb dX9_countHeard_8 rfl (lv_at hl 0 rfl) ?_
  refine gf9_7 Z hP wd_2_15 dX9_countHeard_9 ?_
  refine gf3_0N Z hP ck_34 nf_25 dX9_countHeard_12 ?_
  refine lv_iload_n hx hb dX9_countHeard_15 rfl (lv_at hl 1 rfl) ?_
  obtain ⟨hi26, hF⟩ := ck_ok hF
  refine ra_ld Z hP (ia_3_0 ck_34) hi26 dX9_countHeard_16 ?_
  refine lv_iload_n hx hb dX9_countHeard_17 rfl (lv_at hl 2 rfl) ?_
  refine lv_ishr hx hb dX9_countHeard_18 ?_
  refine lv_iconst (v := (1 : Int32)) hx hb dX9_countHeard_19 ic_1 ?_
  refine lv_iand hx hb dX9_countHeard_20 ?_
  refine lv_if_ne (tgt := 28) hx hb dX9_countHeard_21 rfl (fun hc => ?_) (fun hc => ?_)
  · have hF := (if_neg hc).symm.trans hF
    refine lv_iconst (v := (0 : Int32)) hx hb dX9_countHeard_28 ic_0 ?_
    exact hb29 _ _ hF _ _ _ (lv_sub hl [0, 1, 2] rfl) hP hS
  · have hF := (if_pos hc).symm.trans hF
    refine lv_iconst (v := (1 : Int32)) hx hb dX9_countHeard_24 ic_1 ?_
    refine lv_goto (tgt := 29) hx hb dX9_countHeard_25 rfl ?_
    exact hb29 _ _ hF _ _ _ (lv_sub hl [0, 1, 2] rfl) hP hS
theorem xX9_countHeard {p : Program} {l : Launch} {e : Env} {R : Room} {s : State} {m : MethodId} {args : Array Value} {below : List Frame} {meth : Method} {c : Code} {H : Heap} {locs : List Loc} {Q : State → Prop} {cc : ByteArray} {nL : Nat} {own : String} {g : GG} {pc index : Nat} {ls : Array Slot} {rest : List Value} {mc mm : Mem} (Z : ZZ p s m args c cc nL own g) (hP : va_P g.2.2.1 vwCl (wL g mc mm) H) (hS : va_S (AA g s.heap.size) s.heap H locs) {v1 : Int32} {v2 : Int32} {q : Mem} (hq : F9_countHeard v1 v2 mc = some q) (hlk : Cond.methodLink own index yX9_countHeard ∈ wsL_law) (hsz : ls.size = nL) (hro : (rest.map fun v => v.category).sum ≤ 8) (hR : 2 + 1 ≤ R.frames ∧ 8 + (7 + 11) + 56 ≤ R.locals) (hdg : decode cc pc = .ok (.invokevirtual index, 3)) (kk : ∀ (H : Heap) (locs : List Loc), va_P g.2.2.1 vwCl (wL g q mm) H → va_S (AA g s.heap.size) s.heap H locs → W p l e R s m args below meth c H locs 0 0 Q (F0 m (pc + 3) ls (rest))) : W p l e R s m args below meth c H locs 0 0 Q (F0 m pc ls (.int v2 :: .int v1 :: .ref (g.1 0) :: rest)) :=
  x_VV Z hP hS (kX9_countHeard l g v1 v2 mc mm q hq) (isO_w ck_0) (ci := 9) (by decide) rfl rfl mf_X9_countHeard mv_X9_countHeard hlk rfl rfl hsz hro hR hdg kk
theorem dX9_planCoins_0 : decode cX9_planCoins 0 = .ok (.aload_n 0, 1) := by decide +kernel
theorem dX9_planCoins_1 : decode cX9_planCoins 1 = .ok (.getfield 98, 3) := by decide +kernel
theorem dX9_planCoins_4 : decode cX9_planCoins 4 = .ok (.ifCond .ne 4, 3) := by decide +kernel
theorem dX9_planCoins_7 : decode cX9_planCoins 7 = .ok (.return_, 1) := by decide +kernel
theorem dX9_planCoins_8 : decode cX9_planCoins 8 = .ok (.aload_n 0, 1) := by decide +kernel
theorem dX9_planCoins_9 : decode cX9_planCoins 9 = .ok (.invokevirtual 173, 3) := by decide +kernel
theorem dX9_planCoins_12 : decode cX9_planCoins 12 = .ok (.iconst 0, 1) := by decide +kernel
theorem dX9_planCoins_13 : decode cX9_planCoins 13 = .ok (.istore_n 1, 1) := by decide +kernel
theorem dX9_planCoins_14 : decode cX9_planCoins 14 = .ok (.iload_n 1, 1) := by decide +kernel
theorem dX9_planCoins_15 : decode cX9_planCoins 15 = .ok (.bipush 8, 2) := by decide +kernel
theorem dX9_planCoins_17 : decode cX9_planCoins 17 = .ok (.if_icmp .ge 18, 3) := by decide +kernel
theorem dX9_planCoins_20 : decode cX9_planCoins 20 = .ok (.aload_n 0, 1) := by decide +kernel
theorem dX9_planCoins_21 : decode cX9_planCoins 21 = .ok (.getfield 94, 3) := by decide +kernel
theorem dX9_planCoins_24 : decode cX9_planCoins 24 = .ok (.iload_n 1, 1) := by decide +kernel
theorem dX9_planCoins_25 : decode cX9_planCoins 25 = .ok (.aaload, 1) := by decide +kernel
theorem dX9_planCoins_26 : decode cX9_planCoins 26 = .ok (.invokevirtual 383, 3) := by decide +kernel
theorem dX9_planCoins_29 : decode cX9_planCoins 29 = .ok (.iinc 1 1, 3) := by decide +kernel
theorem dX9_planCoins_32 : decode cX9_planCoins 32 = .ok (.goto (-18), 3) := by decide +kernel
theorem dX9_planCoins_35 : decode cX9_planCoins 35 = .ok (.iconst 0, 1) := by decide +kernel
theorem dX9_planCoins_36 : decode cX9_planCoins 36 = .ok (.istore_n 1, 1) := by decide +kernel
theorem dX9_planCoins_37 : decode cX9_planCoins 37 = .ok (.iload_n 1, 1) := by decide +kernel
theorem dX9_planCoins_38 : decode cX9_planCoins 38 = .ok (.bipush 40, 2) := by decide +kernel
theorem dX9_planCoins_40 : decode cX9_planCoins 40 = .ok (.if_icmp .ge 65, 3) := by decide +kernel
theorem dX9_planCoins_43 : decode cX9_planCoins 43 = .ok (.iconst 0, 1) := by decide +kernel
theorem dX9_planCoins_44 : decode cX9_planCoins 44 = .ok (.istore_n 2, 1) := by decide +kernel
theorem dX9_planCoins_45 : decode cX9_planCoins 45 = .ok (.iload_n 2, 1) := by decide +kernel
theorem dX9_planCoins_46 : decode cX9_planCoins 46 = .ok (.aload_n 0, 1) := by decide +kernel
theorem dX9_planCoins_47 : decode cX9_planCoins 47 = .ok (.getfield 21, 3) := by decide +kernel
theorem dX9_planCoins_50 : decode cX9_planCoins 50 = .ok (.getfield 119, 3) := by decide +kernel
theorem dX9_planCoins_53 : decode cX9_planCoins 53 = .ok (.if_icmp .ge 46, 3) := by decide +kernel
theorem dX9_planCoins_56 : decode cX9_planCoins 56 = .ok (.aload_n 0, 1) := by decide +kernel
theorem dX9_planCoins_57 : decode cX9_planCoins 57 = .ok (.iload_n 1, 1) := by decide +kernel
theorem dX9_planCoins_58 : decode cX9_planCoins 58 = .ok (.iload_n 2, 1) := by decide +kernel
theorem dX9_planCoins_59 : decode cX9_planCoins 59 = .ok (.invokevirtual 386, 3) := by decide +kernel
theorem dX9_planCoins_62 : decode cX9_planCoins 62 = .ok (.iconst 0, 1) := by decide +kernel
theorem dX9_planCoins_63 : decode cX9_planCoins 63 = .ok (.istore_n 3, 1) := by decide +kernel
theorem dX9_planCoins_64 : decode cX9_planCoins 64 = .ok (.iload_n 3, 1) := by decide +kernel
theorem dX9_planCoins_65 : decode cX9_planCoins 65 = .ok (.bipush 8, 2) := by decide +kernel
theorem dX9_planCoins_67 : decode cX9_planCoins 67 = .ok (.if_icmp .ge 26, 3) := by decide +kernel
theorem dX9_planCoins_70 : decode cX9_planCoins 70 = .ok (.aload_n 0, 1) := by decide +kernel
theorem dX9_planCoins_71 : decode cX9_planCoins 71 = .ok (.getfield 94, 3) := by decide +kernel
theorem dX9_planCoins_74 : decode cX9_planCoins 74 = .ok (.iload_n 3, 1) := by decide +kernel
theorem dX9_planCoins_75 : decode cX9_planCoins 75 = .ok (.aaload, 1) := by decide +kernel
theorem dX9_planCoins_76 : decode cX9_planCoins 76 = .ok (.iload_n 1, 1) := by decide +kernel
theorem dX9_planCoins_77 : decode cX9_planCoins 77 = .ok (.iload_n 2, 1) := by decide +kernel
theorem dX9_planCoins_78 : decode cX9_planCoins 78 = .ok (.aload_n 0, 1) := by decide +kernel
theorem dX9_planCoins_79 : decode cX9_planCoins 79 = .ok (.getfield 88, 3) := by decide +kernel
theorem dX9_planCoins_82 : decode cX9_planCoins 82 = .ok (.iload_n 3, 1) := by decide +kernel
theorem dX9_planCoins_83 : decode cX9_planCoins 83 = .ok (.iaload, 1) := by decide +kernel
theorem dX9_planCoins_84 : decode cX9_planCoins 84 = .ok (.invokevirtual 389, 3) := by decide +kernel
theorem dX9_planCoins_87 : decode cX9_planCoins 87 = .ok (.iinc 3 1, 3) := by decide +kernel
theorem dX9_planCoins_90 : decode cX9_planCoins 90 = .ok (.goto (-26), 3) := by decide +kernel
theorem dX9_planCoins_93 : decode cX9_planCoins 93 = .ok (.iinc 2 1, 3) := by decide +kernel
theorem dX9_planCoins_96 : decode cX9_planCoins 96 = .ok (.goto (-51), 3) := by decide +kernel
theorem dX9_planCoins_99 : decode cX9_planCoins 99 = .ok (.iinc 1 1, 3) := by decide +kernel
theorem dX9_planCoins_102 : decode cX9_planCoins 102 = .ok (.goto (-65), 3) := by decide +kernel
theorem dX9_planCoins_105 : decode cX9_planCoins 105 = .ok (.aload_n 0, 1) := by decide +kernel
theorem dX9_planCoins_106 : decode cX9_planCoins 106 = .ok (.iconst 0, 1) := by decide +kernel
theorem dX9_planCoins_107 : decode cX9_planCoins 107 = .ok (.putfield 98, 3) := by decide +kernel
theorem dX9_planCoins_110 : decode cX9_planCoins 110 = .ok (.return_, 1) := by decide +kernel
noncomputable def F9_planCoins_b105 (M : Mem) : Option (Mem) :=
  some (mset M 0 17 (0 : Int32))
noncomputable def F9_planCoins_b99 (kh : Int32 → Mem → Option (Mem)) (kx105 : Mem → Option (Mem)) (a1 : Int32) (M : Mem) : Option (Mem) :=
  kh (a1 + (1 : Int32)) M
noncomputable def F9_planCoins_b93 (kh : Int32 → Int32 → Mem → Option (Mem)) (kx99 : Int32 → Mem → Option (Mem)) (a1 : Int32) (a2 : Int32) (M : Mem) : Option (Mem) :=
  kh a1 (a2 + (1 : Int32)) M
noncomputable def F9_planCoins_p64 (kh : Int32 → Int32 → Int32 → Mem → Option (Mem)) (kx93 : Int32 → Int32 → Mem → Option (Mem)) (a1 : Int32) (a2 : Int32) (a3 : Int32) (M : Mem) : Option (Mem) :=
  (if (8 : Int32) ≤ a3 then kx93 a1 a2 M else (ck a3 8 (ck a3 9 ((F0_offer (100 + 1 * a3.toNatClampNeg) a1 a2 (M 98 a3.toNatClampNeg) M).bind (fun q10 => (kh a1 a2 (a3 + (1 : Int32)) q10))))))
noncomputable def F9_planCoins_h64 (kx93 : Int32 → Int32 → Mem → Option (Mem)) : Nat → Int32 → Int32 → Int32 → Mem → Option (Mem)
  | 0, _, _, _, _ => none
  | n + 1, a1, a2, a3, M => F9_planCoins_p64 (F9_planCoins_h64 kx93 n) kx93 a1 a2 a3 M
noncomputable def F9_planCoins_p45 (kh : Int32 → Int32 → Mem → Option (Mem)) (kx99 : Int32 → Mem → Option (Mem)) (a1 : Int32) (a2 : Int32) (M : Mem) : Option (Mem) :=
  (if (M 6 4) ≤ a2 then kx99 a1 M else ((F9_countHeard a1 a2 M).bind (fun q11 => ((F9_planCoins_h64 (F9_planCoins_b93 kh kx99) FU) a1 a2 (0 : Int32) q11))))
noncomputable def F9_planCoins_h45 (kx99 : Int32 → Mem → Option (Mem)) : Nat → Int32 → Int32 → Mem → Option (Mem)
  | 0, _, _, _ => none
  | n + 1, a1, a2, M => F9_planCoins_p45 (F9_planCoins_h45 kx99 n) kx99 a1 a2 M
noncomputable def F9_planCoins_p37 (kh : Int32 → Mem → Option (Mem)) (kx105 : Mem → Option (Mem)) (a1 : Int32) (M : Mem) : Option (Mem) :=
  (if (40 : Int32) ≤ a1 then kx105 M else (F9_planCoins_h45 (F9_planCoins_b99 kh kx105) FU) a1 (0 : Int32) M)
noncomputable def F9_planCoins_h37 (kx105 : Mem → Option (Mem)) : Nat → Int32 → Mem → Option (Mem)
  | 0, _, _ => none
  | n + 1, a1, M => F9_planCoins_p37 (F9_planCoins_h37 kx105 n) kx105 a1 M
noncomputable def F9_planCoins_b35 (M : Mem) : Option (Mem) :=
  (F9_planCoins_h37 F9_planCoins_b105 FU) (0 : Int32) M
noncomputable def F9_planCoins_p14 (kh : Int32 → Mem → Option (Mem)) (kx35 : Mem → Option (Mem)) (a1 : Int32) (M : Mem) : Option (Mem) :=
  (if (8 : Int32) ≤ a1 then kx35 M else (ck a1 8 ((F0_clear (100 + 1 * a1.toNatClampNeg) M).bind (fun q13 => (kh (a1 + (1 : Int32)) q13)))))
noncomputable def F9_planCoins_h14 (kx35 : Mem → Option (Mem)) : Nat → Int32 → Mem → Option (Mem)
  | 0, _, _ => none
  | n + 1, a1, M => F9_planCoins_p14 (F9_planCoins_h14 kx35 n) kx35 a1 M
noncomputable def F9_planCoins (mc : Mem) : Option (Mem) :=
  (if (mc 0 17) = (0 : Int32) then some mc else ((F9_refresh mc).bind (fun q14 => ((F9_planCoins_h14 F9_planCoins_b35 FU) (0 : Int32) q14))))
set_option maxHeartbeats 4000000 in
set_option maxRecDepth 100000 in
theorem kX9_planCoins (l : Launch) (g : GG) (mc mm : Mem) (q : Mem) (hF : F9_planCoins mc = some q) : KV l yX9_planCoins cX9_planCoins 4 3 82 g [.ref (g.1 0)] mc mm (q, mm) := by
  intro sz
  refine x_start (Qc := fun z => QV g z (q, mm)) (by decide +kernel) (Nat.le_of_ble_eq_true rfl) ?_ sz
  intro p e s m args below meth c ls Z hr hlk hP hl
  have hx := Z.1.1
  have hb := Z.1.2.1
  have hown := Z.1.2.2.2.1
  have hts := Z.1.2.2.2.2
  have hS : va_S (AA g s.heap.size) s.heap s.heap [] := va_S.rf
  have hl : lv_has ls 4 [(0, .ref (g.1 0))] := hl
  unfold F9_planCoins at hF
  have hb105 : ∀  (M : Mem), F9_planCoins_b105 M = some q → ∀ (H : Heap) (locs : List Loc) (ls : Array Slot), lv_has ls 4 [(0, .ref (g.1 0))] → va_P g.2.2.1 vwCl (wL g M mm) H → va_S (AA g s.heap.size) s.heap H locs → W p l e { frames := 3, cells := 0, slots := 0, locals := 82 } s m args below meth c H locs 0 0 (MQ below (QV g s.heap.size (q, mm)) args s 0 0 (AA g s.heap.size)) (F0 m 105 ls []) := by
    intro M hF H locs ls hl hP hS
    unfold F9_planCoins_b105 at hF
    refine lv_aload_n hx hb dX9_planCoins_105 rfl (lv_at hl 0 rfl) ?_
    refine lv_iconst (v := (0 : Int32)) hx hb dX9_planCoins_106 ic_0 ?_
    refine pf9_17 Z hP hS wd_3_8 (Or.inl rfl) dX9_planCoins_107 (fun H locs hP hS => ?_)
    exact ret_VWC Z hr hlk hP hS hF dX9_planCoins_110
  have hL37 : ∀ (kx105 : Mem → Option (Mem)), (∀  (M : Mem), kx105 M = some q → ∀ (H : Heap) (locs : List Loc) (ls : Array Slot), lv_has ls 4 [(0, .ref (g.1 0))] → va_P g.2.2.1 vwCl (wL g M mm) H → va_S (AA g s.heap.size) s.heap H locs → W p l e { frames := 3, cells := 0, slots := 0, locals := 82 } s m args below meth c H locs 0 0 (MQ below (QV g s.heap.size (q, mm)) args s 0 0 (AA g s.heap.size)) (F0 m 105 ls [])) → ∀ n : Nat, ∀ (a1 : Int32) (M : Mem), F9_planCoins_h37 kx105 n a1 M = some q → ∀ (H : Heap) (locs : List Loc) (ls : Array Slot), lv_has ls 4 [(0, .ref (g.1 0)), (1, .int a1)] → va_P g.2.2.1 vwCl (wL g M mm) H → va_S (AA g s.heap.size) s.heap H locs → W p l e { frames := 3, cells := 0, slots := 0, locals := 82 } s m args below meth c H locs 0 0 (MQ below (QV g s.heap.size (q, mm)) args s 0 0 (AA g s.heap.size)) (F0 m 37 ls []) := by
    intro kx105 hx105 n
    induction n with
    | zero => intro a1 M hF H locs ls hl hP hS; exact absurd hF (fun z => nomatch (show (none : Option _) = some q from z))
    | succ n ih =>
      generalize hkh : F9_planCoins_h37 kx105 n = kh at ih
      have hb99 : ∀ (a1 : Int32) (M : Mem), F9_planCoins_b99 kh kx105 a1 M = some q → ∀ (H : Heap) (locs : List Loc) (ls : Array Slot), lv_has ls 4 [(0, .ref (g.1 0)), (1, .int a1)] → va_P g.2.2.1 vwCl (wL g M mm) H → va_S (AA g s.heap.size) s.heap H locs → W p l e { frames := 3, cells := 0, slots := 0, locals := 82 } s m args below meth c H locs 0 0 (MQ below (QV g s.heap.size (q, mm)) args s 0 0 (AA g s.heap.size)) (F0 m 99 ls []) := by
        intro a1 M hF H locs ls hl hP hS
        unfold F9_planCoins_b99 at hF
        refine lv_iinc (lv' := [(1, .int (a1 + (1 : Int32))), (0, .ref (g.1 0))]) (v := (a1 + (1 : Int32))) hx hb dX9_planCoins_99 hl (k := 1) rfl (io_1 _) (Nat.le_of_ble_eq_true rfl) rfl (fun ls hl => ?_)
        refine lv_goto (tgt := 37) hx hb dX9_planCoins_102 rfl ?_
        exact ih _ _ hF _ _ _ (lv_sub hl [1, 0] rfl) hP hS
      have hL45 : ∀ (kx99 : Int32 → Mem → Option (Mem)), (∀ (a1 : Int32) (M : Mem), kx99 a1 M = some q → ∀ (H : Heap) (locs : List Loc) (ls : Array Slot), lv_has ls 4 [(0, .ref (g.1 0)), (1, .int a1)] → va_P g.2.2.1 vwCl (wL g M mm) H → va_S (AA g s.heap.size) s.heap H locs → W p l e { frames := 3, cells := 0, slots := 0, locals := 82 } s m args below meth c H locs 0 0 (MQ below (QV g s.heap.size (q, mm)) args s 0 0 (AA g s.heap.size)) (F0 m 99 ls [])) → ∀ n : Nat, ∀ (a1 : Int32) (a2 : Int32) (M : Mem), F9_planCoins_h45 kx99 n a1 a2 M = some q → ∀ (H : Heap) (locs : List Loc) (ls : Array Slot), lv_has ls 4 [(0, .ref (g.1 0)), (1, .int a1), (2, .int a2)] → va_P g.2.2.1 vwCl (wL g M mm) H → va_S (AA g s.heap.size) s.heap H locs → W p l e { frames := 3, cells := 0, slots := 0, locals := 82 } s m args below meth c H locs 0 0 (MQ below (QV g s.heap.size (q, mm)) args s 0 0 (AA g s.heap.size)) (F0 m 45 ls []) := by
        intro kx99 hx99 n
        induction n with
        | zero => intro a1 a2 M hF H locs ls hl hP hS; exact absurd hF (fun z => nomatch (show (none : Option _) = some q from z))
        | succ n ih =>
          generalize hkh : F9_planCoins_h45 kx99 n = kh at ih
          have hb93 : ∀ (a1 : Int32) (a2 : Int32) (M : Mem), F9_planCoins_b93 kh kx99 a1 a2 M = some q → ∀ (H : Heap) (locs : List Loc) (ls : Array Slot), lv_has ls 4 [(0, .ref (g.1 0)), (1, .int a1), (2, .int a2)] → va_P g.2.2.1 vwCl (wL g M mm) H → va_S (AA g s.heap.size) s.heap H locs → W p l e { frames := 3, cells := 0, slots := 0, locals := 82 } s m args below meth c H locs 0 0 (MQ below (QV g s.heap.size (q, mm)) args s 0 0 (AA g s.heap.size)) (F0 m 93 ls []) := by
            intro a1 a2 M hF H locs ls hl hP hS
            unfold F9_planCoins_b93 at hF
            refine lv_iinc (lv' := [(2, .int (a2 + (1 : Int32))), (0, .ref (g.1 0)), (1, .int a1)]) (v := (a2 + (1 : Int32))) hx hb dX9_planCoins_93 hl (k := 2) rfl (io_1 _) (Nat.le_of_ble_eq_true rfl) rfl (fun ls hl => ?_)
            refine lv_goto (tgt := 45) hx hb dX9_planCoins_96 rfl ?_
            exact ih _ _ _ hF _ _ _ (lv_sub hl [1, 2, 0] rfl) hP hS
          have hL64 : ∀ (kx93 : Int32 → Int32 → Mem → Option (Mem)), (∀ (a1 : Int32) (a2 : Int32) (M : Mem), kx93 a1 a2 M = some q → ∀ (H : Heap) (locs : List Loc) (ls : Array Slot), lv_has ls 4 [(0, .ref (g.1 0)), (1, .int a1), (2, .int a2)] → va_P g.2.2.1 vwCl (wL g M mm) H → va_S (AA g s.heap.size) s.heap H locs → W p l e { frames := 3, cells := 0, slots := 0, locals := 82 } s m args below meth c H locs 0 0 (MQ below (QV g s.heap.size (q, mm)) args s 0 0 (AA g s.heap.size)) (F0 m 93 ls [])) → ∀ n : Nat, ∀ (a1 : Int32) (a2 : Int32) (a3 : Int32) (M : Mem), F9_planCoins_h64 kx93 n a1 a2 a3 M = some q → ∀ (H : Heap) (locs : List Loc) (ls : Array Slot), lv_has ls 4 [(0, .ref (g.1 0)), (1, .int a1), (2, .int a2), (3, .int a3)] → va_P g.2.2.1 vwCl (wL g M mm) H → va_S (AA g s.heap.size) s.heap H locs → W p l e { frames := 3, cells := 0, slots := 0, locals := 82 } s m args below meth c H locs 0 0 (MQ below (QV g s.heap.size (q, mm)) args s 0 0 (AA g s.heap.size)) (F0 m 64 ls []) := by
            intro kx93 hx93 n
            induction n with
            | zero => intro a1 a2 a3 M hF H locs ls hl hP hS; exact absurd hF (fun z => nomatch (show (none : Option _) = some q from z))
            | succ n ih =>
              generalize hkh : F9_planCoins_h64 kx93 n = kh at ih
              intro a1 a2 a3 M hF H locs ls hl hP hS
              have hF : F9_planCoins_p64 (F9_planCoins_h64 kx93 n) kx93 a1 a2 a3 M = some q := hF
              rw [hkh] at hF
              unfold F9_planCoins_p64 at hF
              refine lv_iload_n hx hb dX9_planCoins_64 rfl (lv_at hl 3 rfl) ?_
              refine lv_bipush (v := (8 : Int32)) hx hb dX9_planCoins_65 bp_8 ?_
              refine lv_icmp_ge (tgt := 93) hx hb dX9_planCoins_67 rfl (fun hc => ?_) (fun hc => ?_)
              · have hF := (if_pos hc).symm.trans hF
                exact hx93 _ _ _ hF _ _ _ (lv_sub hl [0, 1, 2] rfl) hP hS
              · have hF := (if_neg hc).symm.trans hF
                refine lv_aload_n hx hb dX9_planCoins_70 rfl (lv_at hl 0 rfl) ?_
                refine gf9_16 Z hP wd_3_7 dX9_planCoins_71 ?_
                refine lv_iload_n hx hb dX9_planCoins_74 rfl (lv_at hl 3 rfl) ?_
                obtain ⟨hi8, hF⟩ := ck_ok hF
                refine rq_25 Z hP hi8 dX9_planCoins_75 ?_
                refine lv_iload_n hx hb dX9_planCoins_76 rfl (lv_at hl 1 rfl) ?_
                refine lv_iload_n hx hb dX9_planCoins_77 rfl (lv_at hl 2 rfl) ?_
                refine lv_aload_n hx hb dX9_planCoins_78 rfl (lv_at hl 0 rfl) ?_
                refine gf9_15 Z hP wd_3_3 dX9_planCoins_79 ?_
                refine lv_iload_n hx hb dX9_planCoins_82 rfl (lv_at hl 3 rfl) ?_
                obtain ⟨hi9, hF⟩ := ck_ok hF
                refine ra_ld Z hP ck_98 hi9 dX9_planCoins_83 ?_
                obtain ⟨q10, hq10, hF⟩ := bd_ok hF
                refine xX0_offer Z hP hS (ir_25 hi8) hq10 wd_28_22 hl.1 (Nat.le_of_ble_eq_true rfl) ⟨Nat.le_of_ble_eq_true rfl, Nat.le_of_ble_eq_true rfl⟩ dX9_planCoins_84 (fun H locs hP hS => ?_)
                refine lv_iinc (lv' := [(3, .int (a3 + (1 : Int32))), (0, .ref (g.1 0)), (1, .int a1), (2, .int a2)]) (v := (a3 + (1 : Int32))) hx hb dX9_planCoins_87 hl (k := 3) rfl (io_1 _) (Nat.le_of_ble_eq_true rfl) rfl (fun ls hl => ?_)
                refine lv_goto (tgt := 64) hx hb dX9_planCoins_90 rfl ?_
                exact ih _ _ _ _ hF _ _ _ (lv_sub hl [1, 2, 3, 0] rfl) hP hS
          intro a1 a2 M hF H locs ls hl hP hS
          have hF : F9_planCoins_p45 (F9_planCoins_h45 kx99 n) kx99 a1 a2 M = some q := hF
          rw [hkh] at hF
          unfold F9_planCoins_p45 at hF
          refine lv_iload_n hx hb dX9_planCoins_45 rfl (lv_at hl 2 rfl) ?_
          refine lv_aload_n hx hb dX9_planCoins_46 rfl (lv_at hl 0 rfl) ?_
          refine gf9_1 Z hP wd_1_19 dX9_planCoins_47 ?_
          refine gf8_4N Z hP ck_6 nf_2 dX9_planCoins_50 ?_
          refine lv_icmp_ge (tgt := 99) hx hb dX9_planCoins_53 rfl (fun hc => ?_) (fun hc => ?_)
          · have hF := (if_pos hc).symm.trans hF
            exact hx99 _ _ hF _ _ _ (lv_sub hl [0, 1] rfl) hP hS
          · have hF := (if_neg hc).symm.trans hF
            refine lv_aload_n hx hb dX9_planCoins_56 rfl (lv_at hl 0 rfl) ?_
            refine lv_iload_n hx hb dX9_planCoins_57 rfl (lv_at hl 1 rfl) ?_
            refine lv_iload_n hx hb dX9_planCoins_58 rfl (lv_at hl 2 rfl) ?_
            obtain ⟨q11, hq11, hF⟩ := bd_ok hF
            refine xX9_countHeard Z hP hS hq11 wd_28_14 hl.1 (Nat.le_of_ble_eq_true rfl) ⟨Nat.le_of_ble_eq_true rfl, Nat.le_of_ble_eq_true rfl⟩ dX9_planCoins_59 (fun H locs hP hS => ?_)
            refine lv_iconst (v := (0 : Int32)) hx hb dX9_planCoins_62 ic_0 ?_
            refine lv_istore_n (lv' := [(3, .int (0 : Int32)), (0, .ref (g.1 0)), (1, .int a1), (2, .int a2)]) hx hb dX9_planCoins_63 rfl hl (Nat.le_of_ble_eq_true rfl) rfl (fun ls hl => ?_)
            exact (hL64 _ hb93 FU) _ _ _ _ hF _ _ _ (lv_sub hl [1, 2, 3, 0] rfl) hP hS
      intro a1 M hF H locs ls hl hP hS
      have hF : F9_planCoins_p37 (F9_planCoins_h37 kx105 n) kx105 a1 M = some q := hF
      rw [hkh] at hF
      unfold F9_planCoins_p37 at hF
      refine lv_iload_n hx hb dX9_planCoins_37 rfl (lv_at hl 1 rfl) ?_
      refine lv_bipush (v := (40 : Int32)) hx hb dX9_planCoins_38 bp_40 ?_
      refine lv_icmp_ge (tgt := 105) hx hb dX9_planCoins_40 rfl (fun hc => ?_) (fun hc => ?_)
      · have hF := (if_pos hc).symm.trans hF
        exact hx105 _ hF _ _ _ (lv_sub hl [0] rfl) hP hS
      · have hF := (if_neg hc).symm.trans hF
        refine lv_iconst (v := (0 : Int32)) hx hb dX9_planCoins_43 ic_0 ?_
        refine lv_istore_n (lv' := [(2, .int (0 : Int32)), (0, .ref (g.1 0)), (1, .int a1)]) hx hb dX9_planCoins_44 rfl hl (Nat.le_of_ble_eq_true rfl) rfl (fun ls hl => ?_)
        exact (hL45 _ hb99 FU) _ _ _ hF _ _ _ (lv_sub hl [1, 2, 0] rfl) hP hS
  have hb35 : ∀  (M : Mem), F9_planCoins_b35 M = some q → ∀ (H : Heap) (locs : List Loc) (ls : Array Slot), lv_has ls 4 [(0, .ref (g.1 0))] → va_P g.2.2.1 vwCl (wL g M mm) H → va_S (AA g s.heap.size) s.heap H locs → W p l e { frames := 3, cells := 0, slots := 0, locals := 82 } s m args below meth c H locs 0 0 (MQ below (QV g s.heap.size (q, mm)) args s 0 0 (AA g s.heap.size)) (F0 m 35 ls []) := by
    intro M hF H locs ls hl hP hS
    unfold F9_planCoins_b35 at hF
    refine lv_iconst (v := (0 : Int32)) hx hb dX9_planCoins_35 ic_0 ?_
    refine lv_istore_n (lv' := [(1, .int (0 : Int32)), (0, .ref (g.1 0))]) hx hb dX9_planCoins_36 rfl hl (Nat.le_of_ble_eq_true rfl) rfl (fun ls hl => ?_)
    exact (hL37 _ hb105 FU) _ _ hF _ _ _ (lv_sub hl [1, 0] rfl) hP hS
  have hL14 : ∀ (kx35 : Mem → Option (Mem)), (∀  (M : Mem), kx35 M = some q → ∀ (H : Heap) (locs : List Loc) (ls : Array Slot), lv_has ls 4 [(0, .ref (g.1 0))] → va_P g.2.2.1 vwCl (wL g M mm) H → va_S (AA g s.heap.size) s.heap H locs → W p l e { frames := 3, cells := 0, slots := 0, locals := 82 } s m args below meth c H locs 0 0 (MQ below (QV g s.heap.size (q, mm)) args s 0 0 (AA g s.heap.size)) (F0 m 35 ls [])) → ∀ n : Nat, ∀ (a1 : Int32) (M : Mem), F9_planCoins_h14 kx35 n a1 M = some q → ∀ (H : Heap) (locs : List Loc) (ls : Array Slot), lv_has ls 4 [(0, .ref (g.1 0)), (1, .int a1)] → va_P g.2.2.1 vwCl (wL g M mm) H → va_S (AA g s.heap.size) s.heap H locs → W p l e { frames := 3, cells := 0, slots := 0, locals := 82 } s m args below meth c H locs 0 0 (MQ below (QV g s.heap.size (q, mm)) args s 0 0 (AA g s.heap.size)) (F0 m 14 ls []) := by
    intro kx35 hx35 n
    induction n with
    | zero => intro a1 M hF H locs ls hl hP hS; exact absurd hF (fun z => nomatch (show (none : Option _) = some q from z))
    | succ n ih =>
      generalize hkh : F9_planCoins_h14 kx35 n = kh at ih
      intro a1 M hF H locs ls hl hP hS
      have hF : F9_planCoins_p14 (F9_planCoins_h14 kx35 n) kx35 a1 M = some q := hF
      rw [hkh] at hF
      unfold F9_planCoins_p14 at hF
      refine lv_iload_n hx hb dX9_planCoins_14 rfl (lv_at hl 1 rfl) ?_
      refine lv_bipush (v := (8 : Int32)) hx hb dX9_planCoins_15 bp_8 ?_
      refine lv_icmp_ge (tgt := 35) hx hb dX9_planCoins_17 rfl (fun hc => ?_) (fun hc => ?_)
      · have hF := (if_pos hc).symm.trans hF
        exact hx35 _ hF _ _ _ (lv_sub hl [0] rfl) hP hS
      · have hF := (if_neg hc).symm.trans hF
        refine lv_aload_n hx hb dX9_planCoins_20 rfl (lv_at hl 0 rfl) ?_
        refine gf9_16 Z hP wd_3_7 dX9_planCoins_21 ?_
        refine lv_iload_n hx hb dX9_planCoins_24 rfl (lv_at hl 1 rfl) ?_
        obtain ⟨hi12, hF⟩ := ck_ok hF
        refine rq_25 Z hP hi12 dX9_planCoins_25 ?_
        obtain ⟨q13, hq13, hF⟩ := bd_ok hF
        refine xX0_clear Z hP hS (ir_25 hi12) hq13 wd_28_10 hl.1 (Nat.le_of_ble_eq_true rfl) ⟨Nat.le_of_ble_eq_true rfl, Nat.le_of_ble_eq_true rfl⟩ dX9_planCoins_26 (fun H locs hP hS => ?_)
        refine lv_iinc (lv' := [(1, .int (a1 + (1 : Int32))), (0, .ref (g.1 0))]) (v := (a1 + (1 : Int32))) hx hb dX9_planCoins_29 hl (k := 1) rfl (io_1 _) (Nat.le_of_ble_eq_true rfl) rfl (fun ls hl => ?_)
        refine lv_goto (tgt := 14) hx hb dX9_planCoins_32 rfl ?_
        exact ih _ _ hF _ _ _ (lv_sub hl [1, 0] rfl) hP hS
  refine lv_aload_n hx hb dX9_planCoins_0 rfl (lv_at hl 0 rfl) ?_
  refine gf9_17 Z hP wd_3_8 dX9_planCoins_1 ?_
  refine lv_if_ne (tgt := 8) hx hb dX9_planCoins_4 rfl (fun hc => ?_) (fun hc => ?_)
  · have hF := (if_neg hc).symm.trans hF
    refine lv_aload_n hx hb dX9_planCoins_8 rfl (lv_at hl 0 rfl) ?_
    obtain ⟨q14, hq14, hF⟩ := bd_ok hF
    refine xX9_refresh Z hP hS hq14 wd_20_10 hl.1 (Nat.le_of_ble_eq_true rfl) ⟨Nat.le_of_ble_eq_true rfl, Nat.le_of_ble_eq_true rfl⟩ dX9_planCoins_9 (fun H locs hP hS => ?_)
    refine lv_iconst (v := (0 : Int32)) hx hb dX9_planCoins_12 ic_0 ?_
    refine lv_istore_n (lv' := [(1, .int (0 : Int32)), (0, .ref (g.1 0))]) hx hb dX9_planCoins_13 rfl hl (Nat.le_of_ble_eq_true rfl) rfl (fun ls hl => ?_)
    exact (hL14 _ hb35 FU) _ _ hF _ _ _ (lv_sub hl [1, 0] rfl) hP hS
  · have hF := (if_pos hc).symm.trans hF
    exact ret_VWC Z hr hlk hP hS hF dX9_planCoins_7
theorem xX9_planCoins {p : Program} {l : Launch} {e : Env} {R : Room} {s : State} {m : MethodId} {args : Array Value} {below : List Frame} {meth : Method} {c : Code} {H : Heap} {locs : List Loc} {Q : State → Prop} {cc : ByteArray} {nL : Nat} {own : String} {g : GG} {pc index : Nat} {ls : Array Slot} {rest : List Value} {mc mm : Mem} (Z : ZZ p s m args c cc nL own g) (hP : va_P g.2.2.1 vwCl (wL g mc mm) H) (hS : va_S (AA g s.heap.size) s.heap H locs) {q : Mem} (hq : F9_planCoins mc = some q) (hlk : Cond.methodLink own index yX9_planCoins ∈ wsL_law) (hsz : ls.size = nL) (hro : (rest.map fun v => v.category).sum ≤ 8) (hR : 3 + 1 ≤ R.frames ∧ 8 + (4 + 11) + 82 ≤ R.locals) (hdg : decode cc pc = .ok (.invokevirtual index, 3)) (kk : ∀ (H : Heap) (locs : List Loc), va_P g.2.2.1 vwCl (wL g q mm) H → va_S (AA g s.heap.size) s.heap H locs → W p l e R s m args below meth c H locs 0 0 Q (F0 m (pc + 3) ls (rest))) : W p l e R s m args below meth c H locs 0 0 Q (F0 m pc ls (.ref (g.1 0) :: rest)) :=
  x_VV Z hP hS (kX9_planCoins l g mc mm q hq) (isO_w ck_0) (ci := 9) (by decide) rfl rfl mf_X9_planCoins mv_X9_planCoins hlk rfl rfl hsz hro hR hdg kk
theorem dX9_toss_0 : decode cX9_toss 0 = .ok (.iload_n 1, 1) := by decide +kernel
theorem dX9_toss_1 : decode cX9_toss 1 = .ok (.bipush 8, 2) := by decide +kernel
theorem dX9_toss_3 : decode cX9_toss 3 = .ok (.invokestatic 101, 3) := by decide +kernel
theorem dX9_toss_6 : decode cX9_toss 6 = .ok (.ifCond .eq 11, 3) := by decide +kernel
theorem dX9_toss_9 : decode cX9_toss 9 = .ok (.iload_n 2, 1) := by decide +kernel
theorem dX9_toss_10 : decode cX9_toss 10 = .ok (.iconst 3, 1) := by decide +kernel
theorem dX9_toss_11 : decode cX9_toss 11 = .ok (.invokestatic 101, 3) := by decide +kernel
theorem dX9_toss_14 : decode cX9_toss 14 = .ok (.ifCond .ne 6, 3) := by decide +kernel
theorem dX9_toss_17 : decode cX9_toss 17 = .ok (.bipush (-2), 2) := by decide +kernel
theorem dX9_toss_19 : decode cX9_toss 19 = .ok (.ireturn, 1) := by decide +kernel
theorem dX9_toss_20 : decode cX9_toss 20 = .ok (.aload_n 0, 1) := by decide +kernel
theorem dX9_toss_21 : decode cX9_toss 21 = .ok (.invokevirtual 202, 3) := by decide +kernel
theorem dX9_toss_24 : decode cX9_toss 24 = .ok (.iload_n 2, 1) := by decide +kernel
theorem dX9_toss_25 : decode cX9_toss 25 = .ok (.lookupswitch 47 #[(0, 27), (1, 37)], 27) := by decide +kernel
theorem dX9_toss_52 : decode cX9_toss 52 = .ok (.aload_n 0, 1) := by decide +kernel
theorem dX9_toss_53 : decode cX9_toss 53 = .ok (.getfield 94, 3) := by decide +kernel
theorem dX9_toss_56 : decode cX9_toss 56 = .ok (.iload_n 1, 1) := by decide +kernel
theorem dX9_toss_57 : decode cX9_toss 57 = .ok (.aaload, 1) := by decide +kernel
theorem dX9_toss_58 : decode cX9_toss 58 = .ok (.getfield 205, 3) := by decide +kernel
theorem dX9_toss_61 : decode cX9_toss 61 = .ok (.ireturn, 1) := by decide +kernel
theorem dX9_toss_62 : decode cX9_toss 62 = .ok (.aload_n 0, 1) := by decide +kernel
theorem dX9_toss_63 : decode cX9_toss 63 = .ok (.getfield 94, 3) := by decide +kernel
theorem dX9_toss_66 : decode cX9_toss 66 = .ok (.iload_n 1, 1) := by decide +kernel
theorem dX9_toss_67 : decode cX9_toss 67 = .ok (.aaload, 1) := by decide +kernel
theorem dX9_toss_68 : decode cX9_toss 68 = .ok (.getfield 207, 3) := by decide +kernel
theorem dX9_toss_71 : decode cX9_toss 71 = .ok (.ireturn, 1) := by decide +kernel
theorem dX9_toss_72 : decode cX9_toss 72 = .ok (.aload_n 0, 1) := by decide +kernel
theorem dX9_toss_73 : decode cX9_toss 73 = .ok (.getfield 94, 3) := by decide +kernel
theorem dX9_toss_76 : decode cX9_toss 76 = .ok (.iload_n 1, 1) := by decide +kernel
theorem dX9_toss_77 : decode cX9_toss 77 = .ok (.aaload, 1) := by decide +kernel
theorem dX9_toss_78 : decode cX9_toss 78 = .ok (.getfield 209, 3) := by decide +kernel
theorem dX9_toss_81 : decode cX9_toss 81 = .ok (.ireturn, 1) := by decide +kernel
noncomputable def F9_toss (v1 : Int32) (v2 : Int32) (mc : Mem) : Option (Int32 × Mem) :=
  ((F9_in v1 (8 : Int32)).bind (fun q7 => (if q7 = (0 : Int32) then some ((-2 : Int32), mc) else ((F9_in v2 (3 : Int32)).bind (fun q8 => (if q8 = (0 : Int32) then some ((-2 : Int32), mc) else ((F9_planCoins mc).bind (fun q9 => (if v2 = (0 : Int32) then (ck v1 8 (some ((q9 (100 + 1 * v1.toNatClampNeg) 0), q9))) else (if v2 = (1 : Int32) then (ck v1 8 (some ((q9 (100 + 1 * v1.toNatClampNeg) 1), q9))) else (ck v1 8 (some ((q9 (100 + 1 * v1.toNatClampNeg) 2), q9)))))))))))))
set_option maxHeartbeats 4000000 in
set_option maxRecDepth 100000 in
theorem kX9_toss (l : Launch) (g : GG) (v1 : Int32) (v2 : Int32) (mc mm : Mem) (q : Int32 × Mem) (hF : F9_toss v1 v2 mc = some q) : KI l yX9_toss cX9_toss 3 .int 4 105 g [.ref (g.1 0), .int v1, .int v2] mc mm q.1 (q.2, mm) := by
  intro sz
  refine x_start (Qc := fun z => QI g z q.1 (q.2, mm)) (by decide +kernel) (Nat.le_of_ble_eq_true rfl) ?_ sz
  intro p e s m args below meth c ls Z hr hlk hP hl
  have hx := Z.1.1
  have hb := Z.1.2.1
  have hown := Z.1.2.2.2.1
  have hts := Z.1.2.2.2.2
  have hS : va_S (AA g s.heap.size) s.heap s.heap [] := va_S.rf
  have hl : lv_has ls 3 [(0, .ref (g.1 0)), (1, .int v1), (2, .int v2)] := hl
  unfold F9_toss at hF
  refine lv_iload_n hx hb dX9_toss_0 rfl (lv_at hl 1 rfl) ?_
  refine lv_bipush (v := (8 : Int32)) hx hb dX9_toss_1 bp_8 ?_
  obtain ⟨q7, hq7, hF⟩ := bd_ok hF
  refine xX9_in Z hP hS hq7 wd_7_7 hl.1 (Nat.le_of_ble_eq_true rfl) ⟨Nat.le_of_ble_eq_true rfl, Nat.le_of_ble_eq_true rfl⟩ dX9_toss_3 (fun H locs hP hS => ?_)
  refine lv_if_eq (tgt := 17) hx hb dX9_toss_6 rfl (fun hc => ?_) (fun hc => ?_)
  · have hF := (if_pos hc).symm.trans hF
    refine lv_bipush (v := (-2 : Int32)) hx hb dX9_toss_17 bp_m2 ?_
    exact ret_IWC Z hr hlk hP hS hF dX9_toss_19
  · have hF := (if_neg hc).symm.trans hF
    refine lv_iload_n hx hb dX9_toss_9 rfl (lv_at hl 2 rfl) ?_
    refine lv_iconst (v := (3 : Int32)) hx hb dX9_toss_10 ic_3 ?_
    obtain ⟨q8, hq8, hF⟩ := bd_ok hF
    refine xX9_in Z hP hS hq8 wd_7_7 hl.1 (Nat.le_of_ble_eq_true rfl) ⟨Nat.le_of_ble_eq_true rfl, Nat.le_of_ble_eq_true rfl⟩ dX9_toss_11 (fun H locs hP hS => ?_)
    refine lv_if_ne (tgt := 20) hx hb dX9_toss_14 rfl (fun hc => ?_) (fun hc => ?_)
    · have hF := (if_neg hc).symm.trans hF
      refine lv_aload_n hx hb dX9_toss_20 rfl (lv_at hl 0 rfl) ?_
      obtain ⟨q9, hq9, hF⟩ := bd_ok hF
      refine xX9_planCoins Z hP hS hq9 wd_28_6 hl.1 (Nat.le_of_ble_eq_true rfl) ⟨Nat.le_of_ble_eq_true rfl, Nat.le_of_ble_eq_true rfl⟩ dX9_toss_21 (fun H locs hP hS => ?_)
      refine lv_iload_n hx hb dX9_toss_24 rfl (lv_at hl 2 rfl) ?_
      by_cases hc10 : v2 = (0 : Int32)
      · have hF := (if_pos hc10).symm.trans hF
        refine lv_lookup (off := 27) (tgt := 52) hx hb dX9_toss_25 (by decide) (by rw [hc10]; decide) rfl ?_
        refine lv_aload_n hx hb dX9_toss_52 rfl (lv_at hl 0 rfl) ?_
        refine gf9_16 Z hP wd_3_7 dX9_toss_53 ?_
        refine lv_iload_n hx hb dX9_toss_56 rfl (lv_at hl 1 rfl) ?_
        obtain ⟨hi11, hF⟩ := ck_ok hF
        refine rq_25 Z hP hi11 dX9_toss_57 ?_
        refine gf0_0N Z hP (ir_25 hi11) nf_17 dX9_toss_58 ?_
        exact ret_IWC Z hr hlk hP hS hF dX9_toss_61
      have hF := (if_neg hc10).symm.trans hF
      by_cases hc12 : v2 = (1 : Int32)
      · have hF := (if_pos hc12).symm.trans hF
        refine lv_lookup (off := 37) (tgt := 62) hx hb dX9_toss_25 (by decide) (by rw [hc12]; decide) rfl ?_
        refine lv_aload_n hx hb dX9_toss_62 rfl (lv_at hl 0 rfl) ?_
        refine gf9_16 Z hP wd_3_7 dX9_toss_63 ?_
        refine lv_iload_n hx hb dX9_toss_66 rfl (lv_at hl 1 rfl) ?_
        obtain ⟨hi13, hF⟩ := ck_ok hF
        refine rq_25 Z hP hi13 dX9_toss_67 ?_
        refine gf0_1N Z hP (ir_25 hi13) nf_18 dX9_toss_68 ?_
        exact ret_IWC Z hr hlk hP hS hF dX9_toss_71
      have hF := (if_neg hc12).symm.trans hF
      refine lv_lookup (off := 47) (tgt := 72) hx hb dX9_toss_25 (by decide) (lk_2 hc10 hc12) rfl ?_
      refine lv_aload_n hx hb dX9_toss_72 rfl (lv_at hl 0 rfl) ?_
      refine gf9_16 Z hP wd_3_7 dX9_toss_73 ?_
      refine lv_iload_n hx hb dX9_toss_76 rfl (lv_at hl 1 rfl) ?_
      obtain ⟨hi14, hF⟩ := ck_ok hF
      refine rq_25 Z hP hi14 dX9_toss_77 ?_
      refine gf0_2N Z hP (ir_25 hi14) nf_19 dX9_toss_78 ?_
      exact ret_IWC Z hr hlk hP hS hF dX9_toss_81
    · have hF := (if_pos hc).symm.trans hF
      refine lv_bipush (v := (-2 : Int32)) hx hb dX9_toss_17 bp_m2 ?_
      exact ret_IWC Z hr hlk hP hS hF dX9_toss_19
theorem xX9_toss {p : Program} {l : Launch} {e : Env} {R : Room} {s : State} {m : MethodId} {args : Array Value} {below : List Frame} {meth : Method} {c : Code} {H : Heap} {locs : List Loc} {Q : State → Prop} {cc : ByteArray} {nL : Nat} {own : String} {g : GG} {pc index : Nat} {ls : Array Slot} {rest : List Value} {mc mm : Mem} (Z : ZZ p s m args c cc nL own g) (hP : va_P g.2.2.1 vwCl (wL g mc mm) H) (hS : va_S (AA g s.heap.size) s.heap H locs) {v1 : Int32} {v2 : Int32} {q : Int32 × Mem} (hq : F9_toss v1 v2 mc = some q) (hlk : Cond.methodLink own index yX9_toss ∈ wsL_law) (hsz : ls.size = nL) (hro : (rest.map fun v => v.category).sum ≤ 8) (hR : 4 + 1 ≤ R.frames ∧ 8 + (3 + 11) + 105 ≤ R.locals) (hdg : decode cc pc = .ok (.invokevirtual index, 3)) (kk : ∀ (H : Heap) (locs : List Loc), va_P g.2.2.1 vwCl (wL g q.2 mm) H → va_S (AA g s.heap.size) s.heap H locs → W p l e R s m args below meth c H locs 0 0 Q (F0 m (pc + 3) ls (.int q.1 :: rest))) : W p l e R s m args below meth c H locs 0 0 Q (F0 m pc ls (.int v2 :: .int v1 :: .ref (g.1 0) :: rest)) :=
  x_VI Z hP hS (kX9_toss l g v1 v2 mc mm q hq) (isO_w ck_0) (ci := 9) (by decide) rfl rfl mf_X9_toss mv_X9_toss hlk rfl rfl hsz hro hR hdg kk

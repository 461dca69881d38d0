theorem dX10_copy_0 : decode cX10_copy 0 = .ok (.iload_n 1, 1) := by decide +kernel
theorem dX10_copy_1 : decode cX10_copy 1 = .ok (.invokestatic 92, 3) := by decide +kernel
theorem dX10_copy_4 : decode cX10_copy 4 = .ok (.ifCond .eq 10, 3) := by decide +kernel
theorem dX10_copy_7 : decode cX10_copy 7 = .ok (.iload_n 3, 1) := by decide +kernel
theorem dX10_copy_8 : decode cX10_copy 8 = .ok (.invokestatic 92, 3) := by decide +kernel
theorem dX10_copy_11 : decode cX10_copy 11 = .ok (.ifCond .ne 6, 3) := by decide +kernel
theorem dX10_copy_14 : decode cX10_copy 14 = .ok (.bipush (-2), 2) := by decide +kernel
theorem dX10_copy_16 : decode cX10_copy 16 = .ok (.ireturn, 1) := by decide +kernel
theorem dX10_copy_17 : decode cX10_copy 17 = .ok (.aload_n 0, 1) := by decide +kernel
theorem dX10_copy_18 : decode cX10_copy 18 = .ok (.getfield 7, 3) := by decide +kernel
theorem dX10_copy_21 : decode cX10_copy 21 = .ok (.iload_n 1, 1) := by decide +kernel
theorem dX10_copy_22 : decode cX10_copy 22 = .ok (.iaload, 1) := by decide +kernel
theorem dX10_copy_23 : decode cX10_copy 23 = .ok (.ifCond .lt 12, 3) := by decide +kernel
theorem dX10_copy_26 : decode cX10_copy 26 = .ok (.aload_n 0, 1) := by decide +kernel
theorem dX10_copy_27 : decode cX10_copy 27 = .ok (.getfield 7, 3) := by decide +kernel
theorem dX10_copy_30 : decode cX10_copy 30 = .ok (.iload_n 3, 1) := by decide +kernel
theorem dX10_copy_31 : decode cX10_copy 31 = .ok (.iaload, 1) := by decide +kernel
theorem dX10_copy_32 : decode cX10_copy 32 = .ok (.ifCond .ge 9, 3) := by decide +kernel
theorem dX10_copy_35 : decode cX10_copy 35 = .ok (.aload_n 0, 1) := by decide +kernel
theorem dX10_copy_36 : decode cX10_copy 36 = .ok (.iconst 1, 1) := by decide +kernel
theorem dX10_copy_37 : decode cX10_copy 37 = .ok (.invokevirtual 98, 3) := by decide +kernel
theorem dX10_copy_40 : decode cX10_copy 40 = .ok (.ireturn, 1) := by decide +kernel
theorem dX10_copy_41 : decode cX10_copy 41 = .ok (.aload_n 0, 1) := by decide +kernel
theorem dX10_copy_42 : decode cX10_copy 42 = .ok (.getfield 7, 3) := by decide +kernel
theorem dX10_copy_45 : decode cX10_copy 45 = .ok (.iload_n 1, 1) := by decide +kernel
theorem dX10_copy_46 : decode cX10_copy 46 = .ok (.iaload, 1) := by decide +kernel
theorem dX10_copy_47 : decode cX10_copy 47 = .ok (.aload_n 0, 1) := by decide +kernel
theorem dX10_copy_48 : decode cX10_copy 48 = .ok (.getfield 7, 3) := by decide +kernel
theorem dX10_copy_51 : decode cX10_copy 51 = .ok (.iload_n 3, 1) := by decide +kernel
theorem dX10_copy_52 : decode cX10_copy 52 = .ok (.iaload, 1) := by decide +kernel
theorem dX10_copy_53 : decode cX10_copy 53 = .ok (.if_icmp .eq 9, 3) := by decide +kernel
theorem dX10_copy_56 : decode cX10_copy 56 = .ok (.aload_n 0, 1) := by decide +kernel
theorem dX10_copy_57 : decode cX10_copy 57 = .ok (.iconst 4, 1) := by decide +kernel
theorem dX10_copy_58 : decode cX10_copy 58 = .ok (.invokevirtual 98, 3) := by decide +kernel
theorem dX10_copy_61 : decode cX10_copy 61 = .ok (.ireturn, 1) := by decide +kernel
theorem dX10_copy_62 : decode cX10_copy 62 = .ok (.iload_n 2, 1) := by decide +kernel
theorem dX10_copy_63 : decode cX10_copy 63 = .ok (.ifCond .lt 48, 3) := by decide +kernel
theorem dX10_copy_66 : decode cX10_copy 66 = .ok (.iload 4, 2) := by decide +kernel
theorem dX10_copy_68 : decode cX10_copy 68 = .ok (.ifCond .lt 43, 3) := by decide +kernel
theorem dX10_copy_71 : decode cX10_copy 71 = .ok (.iload 5, 2) := by decide +kernel
theorem dX10_copy_73 : decode cX10_copy 73 = .ok (.ifCond .lt 38, 3) := by decide +kernel
theorem dX10_copy_76 : decode cX10_copy 76 = .ok (.iload_n 2, 1) := by decide +kernel
theorem dX10_copy_77 : decode cX10_copy 77 = .ok (.i2l, 1) := by decide +kernel
theorem dX10_copy_78 : decode cX10_copy 78 = .ok (.iload 5, 2) := by decide +kernel
theorem dX10_copy_80 : decode cX10_copy 80 = .ok (.i2l, 1) := by decide +kernel
theorem dX10_copy_81 : decode cX10_copy 81 = .ok (.ladd, 1) := by decide +kernel
theorem dX10_copy_82 : decode cX10_copy 82 = .ok (.aload_n 0, 1) := by decide +kernel
theorem dX10_copy_83 : decode cX10_copy 83 = .ok (.getfield 13, 3) := by decide +kernel
theorem dX10_copy_86 : decode cX10_copy 86 = .ok (.iload_n 1, 1) := by decide +kernel
theorem dX10_copy_87 : decode cX10_copy 87 = .ok (.iaload, 1) := by decide +kernel
theorem dX10_copy_88 : decode cX10_copy 88 = .ok (.i2l, 1) := by decide +kernel
theorem dX10_copy_89 : decode cX10_copy 89 = .ok (.lcmp, 1) := by decide +kernel
theorem dX10_copy_90 : decode cX10_copy 90 = .ok (.ifCond .gt 21, 3) := by decide +kernel
theorem dX10_copy_93 : decode cX10_copy 93 = .ok (.iload 4, 2) := by decide +kernel
theorem dX10_copy_95 : decode cX10_copy 95 = .ok (.i2l, 1) := by decide +kernel
theorem dX10_copy_96 : decode cX10_copy 96 = .ok (.iload 5, 2) := by decide +kernel
theorem dX10_copy_98 : decode cX10_copy 98 = .ok (.i2l, 1) := by decide +kernel
theorem dX10_copy_99 : decode cX10_copy 99 = .ok (.ladd, 1) := by decide +kernel
theorem dX10_copy_100 : decode cX10_copy 100 = .ok (.aload_n 0, 1) := by decide +kernel
theorem dX10_copy_101 : decode cX10_copy 101 = .ok (.getfield 13, 3) := by decide +kernel
theorem dX10_copy_104 : decode cX10_copy 104 = .ok (.iload_n 3, 1) := by decide +kernel
theorem dX10_copy_105 : decode cX10_copy 105 = .ok (.iaload, 1) := by decide +kernel
theorem dX10_copy_106 : decode cX10_copy 106 = .ok (.i2l, 1) := by decide +kernel
theorem dX10_copy_107 : decode cX10_copy 107 = .ok (.lcmp, 1) := by decide +kernel
theorem dX10_copy_108 : decode cX10_copy 108 = .ok (.ifCond .le 9, 3) := by decide +kernel
theorem dX10_copy_111 : decode cX10_copy 111 = .ok (.aload_n 0, 1) := by decide +kernel
theorem dX10_copy_112 : decode cX10_copy 112 = .ok (.iconst 2, 1) := by decide +kernel
theorem dX10_copy_113 : decode cX10_copy 113 = .ok (.invokevirtual 98, 3) := by decide +kernel
theorem dX10_copy_116 : decode cX10_copy 116 = .ok (.ireturn, 1) := by decide +kernel
theorem dX10_copy_117 : decode cX10_copy 117 = .ok (.iconst 0, 1) := by decide +kernel
theorem dX10_copy_118 : decode cX10_copy 118 = .ok (.istore 6, 2) := by decide +kernel
theorem dX10_copy_120 : decode cX10_copy 120 = .ok (.iload 6, 2) := by decide +kernel
theorem dX10_copy_122 : decode cX10_copy 122 = .ok (.iload 5, 2) := by decide +kernel
theorem dX10_copy_124 : decode cX10_copy 124 = .ok (.if_icmp .ge 30, 3) := by decide +kernel
theorem dX10_copy_127 : decode cX10_copy 127 = .ok (.aload_n 0, 1) := by decide +kernel
theorem dX10_copy_128 : decode cX10_copy 128 = .ok (.getfield 19, 3) := by decide +kernel
theorem dX10_copy_131 : decode cX10_copy 131 = .ok (.iload 6, 2) := by decide +kernel
theorem dX10_copy_133 : decode cX10_copy 133 = .ok (.aload_n 0, 1) := by decide +kernel
theorem dX10_copy_134 : decode cX10_copy 134 = .ok (.getfield 16, 3) := by decide +kernel
theorem dX10_copy_137 : decode cX10_copy 137 = .ok (.bipush 60, 2) := by decide +kernel
theorem dX10_copy_139 : decode cX10_copy 139 = .ok (.iload_n 1, 1) := by decide +kernel
theorem dX10_copy_140 : decode cX10_copy 140 = .ok (.imul, 1) := by decide +kernel
theorem dX10_copy_141 : decode cX10_copy 141 = .ok (.iload_n 2, 1) := by decide +kernel
theorem dX10_copy_142 : decode cX10_copy 142 = .ok (.iadd, 1) := by decide +kernel
theorem dX10_copy_143 : decode cX10_copy 143 = .ok (.iload 6, 2) := by decide +kernel
theorem dX10_copy_145 : decode cX10_copy 145 = .ok (.iadd, 1) := by decide +kernel
theorem dX10_copy_146 : decode cX10_copy 146 = .ok (.iaload, 1) := by decide +kernel
theorem dX10_copy_147 : decode cX10_copy 147 = .ok (.iastore, 1) := by decide +kernel
theorem dX10_copy_148 : decode cX10_copy 148 = .ok (.iinc 6 1, 3) := by decide +kernel
theorem dX10_copy_151 : decode cX10_copy 151 = .ok (.goto (-31), 3) := by decide +kernel
theorem dX10_copy_154 : decode cX10_copy 154 = .ok (.iconst 0, 1) := by decide +kernel
theorem dX10_copy_155 : decode cX10_copy 155 = .ok (.istore 6, 2) := by decide +kernel
theorem dX10_copy_157 : decode cX10_copy 157 = .ok (.iload 6, 2) := by decide +kernel
theorem dX10_copy_159 : decode cX10_copy 159 = .ok (.iload 5, 2) := by decide +kernel
theorem dX10_copy_161 : decode cX10_copy 161 = .ok (.if_icmp .ge 31, 3) := by decide +kernel
theorem dX10_copy_164 : decode cX10_copy 164 = .ok (.aload_n 0, 1) := by decide +kernel
theorem dX10_copy_165 : decode cX10_copy 165 = .ok (.getfield 16, 3) := by decide +kernel
theorem dX10_copy_168 : decode cX10_copy 168 = .ok (.bipush 60, 2) := by decide +kernel
theorem dX10_copy_170 : decode cX10_copy 170 = .ok (.iload_n 3, 1) := by decide +kernel
theorem dX10_copy_171 : decode cX10_copy 171 = .ok (.imul, 1) := by decide +kernel
theorem dX10_copy_172 : decode cX10_copy 172 = .ok (.iload 4, 2) := by decide +kernel
theorem dX10_copy_174 : decode cX10_copy 174 = .ok (.iadd, 1) := by decide +kernel
theorem dX10_copy_175 : decode cX10_copy 175 = .ok (.iload 6, 2) := by decide +kernel
theorem dX10_copy_177 : decode cX10_copy 177 = .ok (.iadd, 1) := by decide +kernel
theorem dX10_copy_178 : decode cX10_copy 178 = .ok (.aload_n 0, 1) := by decide +kernel
theorem dX10_copy_179 : decode cX10_copy 179 = .ok (.getfield 19, 3) := by decide +kernel
theorem dX10_copy_182 : decode cX10_copy 182 = .ok (.iload 6, 2) := by decide +kernel
theorem dX10_copy_184 : decode cX10_copy 184 = .ok (.iaload, 1) := by decide +kernel
theorem dX10_copy_185 : decode cX10_copy 185 = .ok (.iastore, 1) := by decide +kernel
theorem dX10_copy_186 : decode cX10_copy 186 = .ok (.iinc 6 1, 3) := by decide +kernel
theorem dX10_copy_189 : decode cX10_copy 189 = .ok (.goto (-32), 3) := by decide +kernel
theorem dX10_copy_192 : decode cX10_copy 192 = .ok (.iconst 1, 1) := by decide +kernel
theorem dX10_copy_193 : decode cX10_copy 193 = .ok (.ireturn, 1) := by decide +kernel
noncomputable def F10_copy_b35 (v1 : Int32) (v2 : Int32) (v3 : Int32) (v4 : Int32) (v5 : Int32) (M : Mem) : Option (Int32 × Mem) :=
  ((F10_finds (1 : Int32) M).bind (fun q16 => (some (q16.1, q16.2))))
noncomputable def F10_copy_b111 (v1 : Int32) (v2 : Int32) (v3 : Int32) (v4 : Int32) (v5 : Int32) (M : Mem) : Option (Int32 × Mem) :=
  ((F10_finds (2 : Int32) M).bind (fun q17 => (some (q17.1, q17.2))))
noncomputable def F10_copy_p157 (kh : Int32 → Mem → Option (Int32 × Mem)) (v1 : Int32) (v2 : Int32) (v3 : Int32) (v4 : Int32) (v5 : Int32) (a6 : Int32) (M : Mem) : Option (Int32 × Mem) :=
  (if v5 ≤ a6 then some ((1 : Int32), M) else (ck a6 60 (ck ((((60 : Int32) * v3) + v4) + a6) 240 (kh (a6 + (1 : Int32)) (mset M 3 ((((60 : Int32) * v3) + v4) + a6).toNatClampNeg (M 4 a6.toNatClampNeg))))))
noncomputable def F10_copy_h157 (v1 : Int32) (v2 : Int32) (v3 : Int32) (v4 : Int32) (v5 : Int32) : Nat → Int32 → Mem → Option (Int32 × Mem)
  | 0, _, _ => none
  | n + 1, a6, M => F10_copy_p157 (F10_copy_h157 v1 v2 v3 v4 v5 n) v1 v2 v3 v4 v5 a6 M
noncomputable def F10_copy_b154 (v1 : Int32) (v2 : Int32) (v3 : Int32) (v4 : Int32) (v5 : Int32) (M : Mem) : Option (Int32 × Mem) :=
  (F10_copy_h157 v1 v2 v3 v4 v5 FU) (0 : Int32) M
noncomputable def F10_copy_p120 (kh : Int32 → Mem → Option (Int32 × Mem)) (kx154 : Mem → Option (Int32 × Mem)) (v1 : Int32) (v2 : Int32) (v3 : Int32) (v4 : Int32) (v5 : Int32) (a6 : Int32) (M : Mem) : Option (Int32 × Mem) :=
  (if v5 ≤ a6 then kx154 M else (ck ((((60 : Int32) * v1) + v2) + a6) 240 (ck a6 60 (kh (a6 + (1 : Int32)) (mset M 4 a6.toNatClampNeg (M 3 ((((60 : Int32) * v1) + v2) + a6).toNatClampNeg))))))
noncomputable def F10_copy_h120 (kx154 : Mem → Option (Int32 × Mem)) (v1 : Int32) (v2 : Int32) (v3 : Int32) (v4 : Int32) (v5 : Int32) : Nat → Int32 → Mem → Option (Int32 × Mem)
  | 0, _, _ => none
  | n + 1, a6, M => F10_copy_p120 (F10_copy_h120 kx154 v1 v2 v3 v4 v5 n) kx154 v1 v2 v3 v4 v5 a6 M
noncomputable def F10_copy (v1 : Int32) (v2 : Int32) (v3 : Int32) (v4 : Int32) (v5 : Int32) (mm : Mem) : Option (Int32 × Mem) :=
  ((F10_isSheet v1).bind (fun q22 => (if q22 = (0 : Int32) then some ((-2 : Int32), mm) else ((F10_isSheet v3).bind (fun q23 => (if q23 = (0 : Int32) then some ((-2 : Int32), mm) else (ck v1 4 (if (mm 1 v1.toNatClampNeg) < (0 : Int32) then (F10_copy_b35 v1 v2 v3 v4 v5) mm else (ck v3 4 (if (0 : Int32) ≤ (mm 1 v3.toNatClampNeg) then (ck v1 4 (ck v3 4 (if (mm 1 v1.toNatClampNeg) = (mm 1 v3.toNatClampNeg) then (if v2 < (0 : Int32) then (F10_copy_b111 v1 v2 v3 v4 v5) mm else (if v4 < (0 : Int32) then (F10_copy_b111 v1 v2 v3 v4 v5) mm else (if v5 < (0 : Int32) then (F10_copy_b111 v1 v2 v3 v4 v5) mm else (ck v1 4 (if (0 : Int32) < (lg_cmp (v2.toInt64 + v5.toInt64) ((mm 2 v1.toNatClampNeg).toInt64)) then (F10_copy_b111 v1 v2 v3 v4 v5) mm else (ck v3 4 (if (lg_cmp (v4.toInt64 + v5.toInt64) ((mm 2 v3.toNatClampNeg).toInt64)) ≤ (0 : Int32) then (F10_copy_h120 (F10_copy_b154 v1 v2 v3 v4 v5) v1 v2 v3 v4 v5 FU) (0 : Int32) mm else (F10_copy_b111 v1 v2 v3 v4 v5) mm))))))) else ((F10_finds (4 : Int32) mm).bind (fun q30 => (some (q30.1, q30.2))))))) else (F10_copy_b35 v1 v2 v3 v4 v5) mm))))))))))
set_option maxHeartbeats 4000000 in
set_option maxRecDepth 100000 in
theorem kX10_copy (l : Launch) (g : GG) (v1 : Int32) (v2 : Int32) (v3 : Int32) (v4 : Int32) (v5 : Int32) (mc mm : Mem) (q : Int32 × Mem) (hF : F10_copy v1 v2 v3 v4 v5 mm = some q) : KI l yX10_copy cX10_copy 7 .int 2 45 g [.ref (g.1 108), .int v1, .int v2, .int v3, .int v4, .int v5] mc mm q.1 (mc, q.2) := by
  intro sz
  refine x_start (Qc := fun z => QI g z q.1 (mc, q.2)) (by decide +kernel) (Nat.le_of_ble_eq_true rfl) ?_ sz
  intro p e s m args below meth c ls Z hr hlk hP hl
  have hx := Z.1.1
  have hb := Z.1.2.1
  have hown := Z.1.2.2.2.1
  have hts := Z.1.2.2.2.2
  have hS : va_S (AA g s.heap.size) s.heap s.heap [] := va_S.rf
  have hl : lv_has ls 7 [(0, .ref (g.1 108)), (1, .int v1), (2, .int v2), (3, .int v3), (4, .int v4), (5, .int v5)] := hl
  unfold F10_copy at hF
  have hb35 : ∀  (M : Mem), F10_copy_b35 v1 v2 v3 v4 v5 M = some q → ∀ (H : Heap) (locs : List Loc) (ls : Array Slot), lv_has ls 7 [(0, .ref (g.1 108))] → va_P g.2.2.1 vwCl (wL g mc M) H → va_S (AA g s.heap.size) s.heap H locs → W p l e { frames := 2, cells := 0, slots := 0, locals := 45 } s m args below meth c H locs 0 0 (MQ below (QI g s.heap.size q.1 (mc, q.2)) args s 0 0 (AA g s.heap.size)) (F0 m 35 ls []) := by
    intro M hF H locs ls hl hP hS
    unfold F10_copy_b35 at hF
    refine lv_aload_n hx hb dX10_copy_35 rfl (lv_at hl 0 rfl) ?_
    refine lv_iconst (v := (1 : Int32)) hx hb dX10_copy_36 ic_1 ?_
    obtain ⟨q16, hq16, hF⟩ := bd_ok hF
    refine xX10_finds Z hP hS hq16 wd_20_0 hl.1 (Nat.le_of_ble_eq_true rfl) ⟨Nat.le_of_ble_eq_true rfl, Nat.le_of_ble_eq_true rfl⟩ dX10_copy_37 (fun H locs hP hS => ?_)
    exact ret_IWM Z hr hlk hP hS hF dX10_copy_40
  have hb111 : ∀  (M : Mem), F10_copy_b111 v1 v2 v3 v4 v5 M = some q → ∀ (H : Heap) (locs : List Loc) (ls : Array Slot), lv_has ls 7 [(0, .ref (g.1 108))] → va_P g.2.2.1 vwCl (wL g mc M) H → va_S (AA g s.heap.size) s.heap H locs → W p l e { frames := 2, cells := 0, slots := 0, locals := 45 } s m args below meth c H locs 0 0 (MQ below (QI g s.heap.size q.1 (mc, q.2)) args s 0 0 (AA g s.heap.size)) (F0 m 111 ls []) := by
    intro M hF H locs ls hl hP hS
    unfold F10_copy_b111 at hF
    refine lv_aload_n hx hb dX10_copy_111 rfl (lv_at hl 0 rfl) ?_
    refine lv_iconst (v := (2 : Int32)) hx hb dX10_copy_112 ic_2 ?_
    obtain ⟨q17, hq17, hF⟩ := bd_ok hF
    refine xX10_finds Z hP hS hq17 wd_20_0 hl.1 (Nat.le_of_ble_eq_true rfl) ⟨Nat.le_of_ble_eq_true rfl, Nat.le_of_ble_eq_true rfl⟩ dX10_copy_113 (fun H locs hP hS => ?_)
    exact ret_IWM Z hr hlk hP hS hF dX10_copy_116
  have hL157 : ∀ n : Nat, ∀ (a6 : Int32) (M : Mem), F10_copy_h157 v1 v2 v3 v4 v5 n a6 M = some q → ∀ (H : Heap) (locs : List Loc) (ls : Array Slot), lv_has ls 7 [(0, .ref (g.1 108)), (3, .int v3), (4, .int v4), (5, .int v5), (6, .int a6)] → va_P g.2.2.1 vwCl (wL g mc M) H → va_S (AA g s.heap.size) s.heap H locs → W p l e { frames := 2, cells := 0, slots := 0, locals := 45 } s m args below meth c H locs 0 0 (MQ below (QI g s.heap.size q.1 (mc, q.2)) args s 0 0 (AA g s.heap.size)) (F0 m 157 ls []) := by
    intro n
    induction n with
    | zero => intro a6 M hF H locs ls hl hP hS; exact absurd hF (fun z => nomatch (show (none : Option _) = some q from z))
    | succ n ih =>
      generalize hkh : F10_copy_h157 v1 v2 v3 v4 v5 n = kh at ih
      intro a6 M hF H locs ls hl hP hS
      have hF : F10_copy_p157 (F10_copy_h157 v1 v2 v3 v4 v5 n) v1 v2 v3 v4 v5 a6 M = some q := hF
      rw [hkh] at hF
      unfold F10_copy_p157 at hF
      refine lv_iload hx hb dX10_copy_157 (lv_at hl 4 rfl) ?_
      refine lv_iload hx hb dX10_copy_159 (lv_at hl 3 rfl) ?_
      refine lv_icmp_ge (tgt := 192) hx hb dX10_copy_161 rfl (fun hc => ?_) (fun hc => ?_)
      · have hF := (if_pos hc).symm.trans hF
        refine lv_iconst (v := (1 : Int32)) hx hb dX10_copy_192 ic_1 ?_
        exact ret_IWM Z hr hlk hP hS hF dX10_copy_193
      · have hF := (if_neg hc).symm.trans hF
        refine lv_aload_n hx hb dX10_copy_164 rfl (lv_at hl 0 rfl) ?_
        refine gf10_2 Z hP wd_6_6 dX10_copy_165 ?_
        refine lv_bipush (v := (60 : Int32)) hx hb dX10_copy_168 bp_60 ?_
        refine lv_iload_n hx hb dX10_copy_170 rfl (lv_at hl 1 rfl) ?_
        refine lv_imul hx hb dX10_copy_171 ?_
        refine lv_iload hx hb dX10_copy_172 (lv_at hl 2 rfl) ?_
        refine lv_iadd hx hb dX10_copy_174 ?_
        refine lv_iload hx hb dX10_copy_175 (lv_at hl 4 rfl) ?_
        refine lv_iadd hx hb dX10_copy_177 ?_
        refine lv_aload_n hx hb dX10_copy_178 rfl (lv_at hl 0 rfl) ?_
        refine gf10_3 Z hP wd_6_7 dX10_copy_179 ?_
        refine lv_iload hx hb dX10_copy_182 (lv_at hl 4 rfl) ?_
        obtain ⟨hi18, hF⟩ := ck_ok hF
        refine rM_ld Z hP 60 4 (by decide +kernel) hi18 dX10_copy_184 ?_
        obtain ⟨hi19, hF⟩ := ck_ok hF
        refine rM_st Z hP hS 240 3 (by decide +kernel) hi19 dX10_copy_185 (fun H locs hP hS => ?_)
        refine lv_iinc (lv' := [(6, .int (a6 + (1 : Int32))), (0, .ref (g.1 108)), (3, .int v3), (4, .int v4), (5, .int v5)]) (v := (a6 + (1 : Int32))) hx hb dX10_copy_186 hl (k := 4) rfl (io_1 _) (Nat.le_of_ble_eq_true rfl) rfl (fun ls hl => ?_)
        refine lv_goto (tgt := 157) hx hb dX10_copy_189 rfl ?_
        exact ih _ _ hF _ _ _ (lv_sub hl [1, 2, 3, 4, 0] rfl) hP hS
  have hb154 : ∀  (M : Mem), F10_copy_b154 v1 v2 v3 v4 v5 M = some q → ∀ (H : Heap) (locs : List Loc) (ls : Array Slot), lv_has ls 7 [(0, .ref (g.1 108)), (3, .int v3), (4, .int v4), (5, .int v5)] → va_P g.2.2.1 vwCl (wL g mc M) H → va_S (AA g s.heap.size) s.heap H locs → W p l e { frames := 2, cells := 0, slots := 0, locals := 45 } s m args below meth c H locs 0 0 (MQ below (QI g s.heap.size q.1 (mc, q.2)) args s 0 0 (AA g s.heap.size)) (F0 m 154 ls []) := by
    intro M hF H locs ls hl hP hS
    unfold F10_copy_b154 at hF
    refine lv_iconst (v := (0 : Int32)) hx hb dX10_copy_154 ic_0 ?_
    refine lv_istore (lv' := [(6, .int (0 : Int32)), (0, .ref (g.1 108)), (3, .int v3), (4, .int v4), (5, .int v5)]) hx hb dX10_copy_155 hl (Nat.le_of_ble_eq_true rfl) rfl (fun ls hl => ?_)
    exact (hL157 FU) _ _ hF _ _ _ (lv_sub hl [1, 2, 3, 4, 0] rfl) hP hS
  have hL120 : ∀ (kx154 : Mem → Option (Int32 × Mem)), (∀  (M : Mem), kx154 M = some q → ∀ (H : Heap) (locs : List Loc) (ls : Array Slot), lv_has ls 7 [(0, .ref (g.1 108)), (3, .int v3), (4, .int v4), (5, .int v5)] → va_P g.2.2.1 vwCl (wL g mc M) H → va_S (AA g s.heap.size) s.heap H locs → W p l e { frames := 2, cells := 0, slots := 0, locals := 45 } s m args below meth c H locs 0 0 (MQ below (QI g s.heap.size q.1 (mc, q.2)) args s 0 0 (AA g s.heap.size)) (F0 m 154 ls [])) → ∀ n : Nat, ∀ (a6 : Int32) (M : Mem), F10_copy_h120 kx154 v1 v2 v3 v4 v5 n a6 M = some q → ∀ (H : Heap) (locs : List Loc) (ls : Array Slot), lv_has ls 7 [(0, .ref (g.1 108)), (1, .int v1), (2, .int v2), (3, .int v3), (4, .int v4), (5, .int v5), (6, .int a6)] → va_P g.2.2.1 vwCl (wL g mc M) H → va_S (AA g s.heap.size) s.heap H locs → W p l e { frames := 2, cells := 0, slots := 0, locals := 45 } s m args below meth c H locs 0 0 (MQ below (QI g s.heap.size q.1 (mc, q.2)) args s 0 0 (AA g s.heap.size)) (F0 m 120 ls []) := by
    intro kx154 hx154 n
    induction n with
    | zero => intro a6 M hF H locs ls hl hP hS; exact absurd hF (fun z => nomatch (show (none : Option _) = some q from z))
    | succ n ih =>
      generalize hkh : F10_copy_h120 kx154 v1 v2 v3 v4 v5 n = kh at ih
      intro a6 M hF H locs ls hl hP hS
      have hF : F10_copy_p120 (F10_copy_h120 kx154 v1 v2 v3 v4 v5 n) kx154 v1 v2 v3 v4 v5 a6 M = some q := hF
      rw [hkh] at hF
      unfold F10_copy_p120 at hF
      refine lv_iload hx hb dX10_copy_120 (lv_at hl 6 rfl) ?_
      refine lv_iload hx hb dX10_copy_122 (lv_at hl 5 rfl) ?_
      refine lv_icmp_ge (tgt := 154) hx hb dX10_copy_124 rfl (fun hc => ?_) (fun hc => ?_)
      · have hF := (if_pos hc).symm.trans hF
        exact hx154 _ hF _ _ _ (lv_sub hl [0, 3, 4, 5] rfl) hP hS
      · have hF := (if_neg hc).symm.trans hF
        refine lv_aload_n hx hb dX10_copy_127 rfl (lv_at hl 0 rfl) ?_
        refine gf10_3 Z hP wd_6_7 dX10_copy_128 ?_
        refine lv_iload hx hb dX10_copy_131 (lv_at hl 6 rfl) ?_
        refine lv_aload_n hx hb dX10_copy_133 rfl (lv_at hl 0 rfl) ?_
        refine gf10_2 Z hP wd_6_6 dX10_copy_134 ?_
        refine lv_bipush (v := (60 : Int32)) hx hb dX10_copy_137 bp_60 ?_
        refine lv_iload_n hx hb dX10_copy_139 rfl (lv_at hl 1 rfl) ?_
        refine lv_imul hx hb dX10_copy_140 ?_
        refine lv_iload_n hx hb dX10_copy_141 rfl (lv_at hl 2 rfl) ?_
        refine lv_iadd hx hb dX10_copy_142 ?_
        refine lv_iload hx hb dX10_copy_143 (lv_at hl 6 rfl) ?_
        refine lv_iadd hx hb dX10_copy_145 ?_
        obtain ⟨hi20, hF⟩ := ck_ok hF
        refine rM_ld Z hP 240 3 (by decide +kernel) hi20 dX10_copy_146 ?_
        obtain ⟨hi21, hF⟩ := ck_ok hF
        refine rM_st Z hP hS 60 4 (by decide +kernel) hi21 dX10_copy_147 (fun H locs hP hS => ?_)
        refine lv_iinc (lv' := [(6, .int (a6 + (1 : Int32))), (0, .ref (g.1 108)), (1, .int v1), (2, .int v2), (3, .int v3), (4, .int v4), (5, .int v5)]) (v := (a6 + (1 : Int32))) hx hb dX10_copy_148 hl (k := 6) rfl (io_1 _) (Nat.le_of_ble_eq_true rfl) rfl (fun ls hl => ?_)
        refine lv_goto (tgt := 120) hx hb dX10_copy_151 rfl ?_
        exact ih _ _ hF _ _ _ (lv_sub hl [1, 2, 3, 4, 5, 6, 0] rfl) hP hS
  refine lv_iload_n hx hb dX10_copy_0 rfl (lv_at hl 1 rfl) ?_
  obtain ⟨q22, hq22, hF⟩ := bd_ok hF
  refine xX10_isSheet Z hP hS hq22 wd_19_21 hl.1 (Nat.le_of_ble_eq_true rfl) ⟨Nat.le_of_ble_eq_true rfl, Nat.le_of_ble_eq_true rfl⟩ dX10_copy_1 (fun H locs hP hS => ?_)
  refine lv_if_eq (tgt := 14) hx hb dX10_copy_4 rfl (fun hc => ?_) (fun hc => ?_)
  · have hF := (if_pos hc).symm.trans hF
    refine lv_bipush (v := (-2 : Int32)) hx hb dX10_copy_14 bp_m2 ?_
    exact ret_IWM Z hr hlk hP hS hF dX10_copy_16
  · have hF := (if_neg hc).symm.trans hF
    refine lv_iload_n hx hb dX10_copy_7 rfl (lv_at hl 3 rfl) ?_
    obtain ⟨q23, hq23, hF⟩ := bd_ok hF
    refine xX10_isSheet Z hP hS hq23 wd_19_21 hl.1 (Nat.le_of_ble_eq_true rfl) ⟨Nat.le_of_ble_eq_true rfl, Nat.le_of_ble_eq_true rfl⟩ dX10_copy_8 (fun H locs hP hS => ?_)
    refine lv_if_ne (tgt := 17) hx hb dX10_copy_11 rfl (fun hc => ?_) (fun hc => ?_)
    · have hF := (if_neg hc).symm.trans hF
      refine lv_aload_n hx hb dX10_copy_17 rfl (lv_at hl 0 rfl) ?_
      refine gf10_0 Z hP wd_6_4 dX10_copy_18 ?_
      refine lv_iload_n hx hb dX10_copy_21 rfl (lv_at hl 1 rfl) ?_
      obtain ⟨hi24, hF⟩ := ck_ok hF
      refine rM_ld Z hP 4 1 (by decide +kernel) hi24 dX10_copy_22 ?_
      refine lv_if_lt (tgt := 35) hx hb dX10_copy_23 rfl (fun hc => ?_) (fun hc => ?_)
      · have hF := (if_pos hc).symm.trans hF
        exact hb35 _ hF _ _ _ (lv_sub hl [0] rfl) hP hS
      · have hF := (if_neg hc).symm.trans hF
        refine lv_aload_n hx hb dX10_copy_26 rfl (lv_at hl 0 rfl) ?_
        refine gf10_0 Z hP wd_6_4 dX10_copy_27 ?_
        refine lv_iload_n hx hb dX10_copy_30 rfl (lv_at hl 3 rfl) ?_
        obtain ⟨hi25, hF⟩ := ck_ok hF
        refine rM_ld Z hP 4 1 (by decide +kernel) hi25 dX10_copy_31 ?_
        refine lv_if_ge (tgt := 41) hx hb dX10_copy_32 rfl (fun hc => ?_) (fun hc => ?_)
        · have hF := (if_pos hc).symm.trans hF
          refine lv_aload_n hx hb dX10_copy_41 rfl (lv_at hl 0 rfl) ?_
          refine gf10_0 Z hP wd_6_4 dX10_copy_42 ?_
          refine lv_iload_n hx hb dX10_copy_45 rfl (lv_at hl 1 rfl) ?_
          obtain ⟨hi26, hF⟩ := ck_ok hF
          refine rM_ld Z hP 4 1 (by decide +kernel) hi26 dX10_copy_46 ?_
          refine lv_aload_n hx hb dX10_copy_47 rfl (lv_at hl 0 rfl) ?_
          refine gf10_0 Z hP wd_6_4 dX10_copy_48 ?_
          refine lv_iload_n hx hb dX10_copy_51 rfl (lv_at hl 3 rfl) ?_
          obtain ⟨hi27, hF⟩ := ck_ok hF
          refine rM_ld Z hP 4 1 (by decide +kernel) hi27 dX10_copy_52 ?_
          refine lv_icmp_eq (tgt := 62) hx hb dX10_copy_53 rfl (fun hc => ?_) (fun hc => ?_)
          · have hF := (if_pos hc).symm.trans hF
            refine lv_iload_n hx hb dX10_copy_62 rfl (lv_at hl 2 rfl) ?_
            refine lv_if_lt (tgt := 111) hx hb dX10_copy_63 rfl (fun hc => ?_) (fun hc => ?_)
            · have hF := (if_pos hc).symm.trans hF
              exact hb111 _ hF _ _ _ (lv_sub hl [0] rfl) hP hS
            · have hF := (if_neg hc).symm.trans hF
              refine lv_iload hx hb dX10_copy_66 (lv_at hl 4 rfl) ?_
              refine lv_if_lt (tgt := 111) hx hb dX10_copy_68 rfl (fun hc => ?_) (fun hc => ?_)
              · have hF := (if_pos hc).symm.trans hF
                exact hb111 _ hF _ _ _ (lv_sub hl [0] rfl) hP hS
              · have hF := (if_neg hc).symm.trans hF
                refine lv_iload hx hb dX10_copy_71 (lv_at hl 5 rfl) ?_
                refine lv_if_lt (tgt := 111) hx hb dX10_copy_73 rfl (fun hc => ?_) (fun hc => ?_)
                · have hF := (if_pos hc).symm.trans hF
                  exact hb111 _ hF _ _ _ (lv_sub hl [0] rfl) hP hS
                · have hF := (if_neg hc).symm.trans hF
                  refine lv_iload_n hx hb dX10_copy_76 rfl (lv_at hl 2 rfl) ?_
                  refine lv_i2l (v := v2.toInt64) hx hb dX10_copy_77 rfl ?_
                  refine lv_iload hx hb dX10_copy_78 (lv_at hl 5 rfl) ?_
                  refine lv_i2l (v := v5.toInt64) hx hb dX10_copy_80 rfl ?_
                  refine lv_ladd hx hb dX10_copy_81 ?_
                  refine lv_aload_n hx hb dX10_copy_82 rfl (lv_at hl 0 rfl) ?_
                  refine gf10_1 Z hP wd_6_5 dX10_copy_83 ?_
                  refine lv_iload_n hx hb dX10_copy_86 rfl (lv_at hl 1 rfl) ?_
                  obtain ⟨hi28, hF⟩ := ck_ok hF
                  refine rM_ld Z hP 4 2 (by decide +kernel) hi28 dX10_copy_87 ?_
                  refine lv_i2l (v := (mm 2 v1.toNatClampNeg).toInt64) hx hb dX10_copy_88 rfl ?_
                  refine W.lcmp hx hb dX10_copy_89 ?_
                  refine lv_if_gt (tgt := 111) hx hb dX10_copy_90 rfl (fun hc => ?_) (fun hc => ?_)
                  · have hF := (if_pos hc).symm.trans hF
                    exact hb111 _ hF _ _ _ (lv_sub hl [0] rfl) hP hS
                  · have hF := (if_neg hc).symm.trans hF
                    refine lv_iload hx hb dX10_copy_93 (lv_at hl 4 rfl) ?_
                    refine lv_i2l (v := v4.toInt64) hx hb dX10_copy_95 rfl ?_
                    refine lv_iload hx hb dX10_copy_96 (lv_at hl 5 rfl) ?_
                    refine lv_i2l (v := v5.toInt64) hx hb dX10_copy_98 rfl ?_
                    refine lv_ladd hx hb dX10_copy_99 ?_
                    refine lv_aload_n hx hb dX10_copy_100 rfl (lv_at hl 0 rfl) ?_
                    refine gf10_1 Z hP wd_6_5 dX10_copy_101 ?_
                    refine lv_iload_n hx hb dX10_copy_104 rfl (lv_at hl 3 rfl) ?_
                    obtain ⟨hi29, hF⟩ := ck_ok hF
                    refine rM_ld Z hP 4 2 (by decide +kernel) hi29 dX10_copy_105 ?_
                    refine lv_i2l (v := (mm 2 v3.toNatClampNeg).toInt64) hx hb dX10_copy_106 rfl ?_
                    refine W.lcmp hx hb dX10_copy_107 ?_
                    refine lv_if_le (tgt := 117) hx hb dX10_copy_108 rfl (fun hc => ?_) (fun hc => ?_)
                    · have hF := (if_pos hc).symm.trans hF
                      refine lv_iconst (v := (0 : Int32)) hx hb dX10_copy_117 ic_0 ?_
                      refine lv_istore (lv' := [(6, .int (0 : Int32)), (0, .ref (g.1 108)), (1, .int v1), (2, .int v2), (3, .int v3), (4, .int v4), (5, .int v5)]) hx hb dX10_copy_118 hl (Nat.le_of_ble_eq_true rfl) rfl (fun ls hl => ?_)
                      exact (hL120 _ hb154 FU) _ _ hF _ _ _ (lv_sub hl [1, 2, 3, 4, 5, 6, 0] rfl) hP hS
                    · have hF := (if_neg hc).symm.trans hF
                      exact hb111 _ hF _ _ _ (lv_sub hl [0] rfl) hP hS
          · have hF := (if_neg hc).symm.trans hF
            refine lv_aload_n hx hb dX10_copy_56 rfl (lv_at hl 0 rfl) ?_
            refine lv_iconst (v := (4 : Int32)) hx hb dX10_copy_57 ic_4 ?_
            obtain ⟨q30, hq30, hF⟩ := bd_ok hF
            refine xX10_finds Z hP hS hq30 wd_20_0 hl.1 (Nat.le_of_ble_eq_true rfl) ⟨Nat.le_of_ble_eq_true rfl, Nat.le_of_ble_eq_true rfl⟩ dX10_copy_58 (fun H locs hP hS => ?_)
            exact ret_IWM Z hr hlk hP hS hF dX10_copy_61
        · have hF := (if_neg hc).symm.trans hF
          exact hb35 _ hF _ _ _ (lv_sub hl [0] rfl) hP hS
    · have hF := (if_pos hc).symm.trans hF
      refine lv_bipush (v := (-2 : Int32)) hx hb dX10_copy_14 bp_m2 ?_
      exact ret_IWM Z hr hlk hP hS hF dX10_copy_16
theorem xX10_copy {p : Program} {l : Launch} {e : Env} {R : Room} {s : State} {m : MethodId} {args : Array Value} {below : List Frame} {meth : Method} {c : Code} {H : Heap} {locs : List Loc} {Q : State → Prop} {cc : ByteArray} {nL : Nat} {own : String} {g : GG} {pc index : Nat} {ls : Array Slot} {rest : List Value} {mc mm : Mem} (Z : ZZ p s m args c cc nL own g) (hP : va_P g.2.2.1 vwCl (wL g mc mm) H) (hS : va_S (AA g s.heap.size) s.heap H locs) {v1 : Int32} {v2 : Int32} {v3 : Int32} {v4 : Int32} {v5 : Int32} {q : Int32 × Mem} (hq : F10_copy v1 v2 v3 v4 v5 mm = some q) (hlk : Cond.methodLink own index yX10_copy ∈ wsL_law) (hsz : ls.size = nL) (hro : (rest.map fun v => v.category).sum ≤ 8) (hR : 2 + 1 ≤ R.frames ∧ 8 + (7 + 11) + 45 ≤ R.locals) (hdg : decode cc pc = .ok (.invokevirtual index, 3)) (kk : ∀ (H : Heap) (locs : List Loc), va_P g.2.2.1 vwCl (wL g mc q.2) H → va_S (AA g s.heap.size) s.heap H locs → W p l e R s m args below meth c H locs 0 0 Q (F0 m (pc + 3) ls (.int q.1 :: rest))) : W p l e R s m args below meth c H locs 0 0 Q (F0 m pc ls (.int v5 :: .int v4 :: .int v3 :: .int v2 :: .int v1 :: .ref (g.1 108) :: rest)) :=
  x_VI Z hP hS (kX10_copy l g v1 v2 v3 v4 v5 mc mm q hq) (mO) (ci := 10) (by decide) rfl rfl mf_X10_copy mv_X10_copy hlk rfl rfl hsz hro hR hdg kk
theorem dX10_type_0 : decode cX10_type 0 = .ok (.iload_n 1, 1) := by decide +kernel
theorem dX10_type_1 : decode cX10_type 1 = .ok (.invokestatic 111, 3) := by decide +kernel
theorem dX10_type_4 : decode cX10_type 4 = .ok (.ifCond .eq 15, 3) := by decide +kernel
theorem dX10_type_7 : decode cX10_type 7 = .ok (.iload_n 2, 1) := by decide +kernel
theorem dX10_type_8 : decode cX10_type 8 = .ok (.i2l, 1) := by decide +kernel
theorem dX10_type_9 : decode cX10_type 9 = .ok (.lconst 0, 1) := by decide +kernel
theorem dX10_type_10 : decode cX10_type 10 = .ok (.ldc2_w 114, 3) := by decide +kernel
theorem dX10_type_13 : decode cX10_type 13 = .ok (.invokestatic 83, 3) := by decide +kernel
theorem dX10_type_16 : decode cX10_type 16 = .ok (.ifCond .ne 6, 3) := by decide +kernel
theorem dX10_type_19 : decode cX10_type 19 = .ok (.bipush (-2), 2) := by decide +kernel
theorem dX10_type_21 : decode cX10_type 21 = .ok (.ireturn, 1) := by decide +kernel
theorem dX10_type_22 : decode cX10_type 22 = .ok (.aload_n 0, 1) := by decide +kernel
theorem dX10_type_23 : decode cX10_type 23 = .ok (.getfield 25, 3) := by decide +kernel
theorem dX10_type_26 : decode cX10_type 26 = .ok (.iload_n 1, 1) := by decide +kernel
theorem dX10_type_27 : decode cX10_type 27 = .ok (.iaload, 1) := by decide +kernel
theorem dX10_type_28 : decode cX10_type 28 = .ok (.iload_n 1, 1) := by decide +kernel
theorem dX10_type_29 : decode cX10_type 29 = .ok (.ifCond .ne 8, 3) := by decide +kernel
theorem dX10_type_32 : decode cX10_type 32 = .ok (.bipush 23, 2) := by decide +kernel
theorem dX10_type_34 : decode cX10_type 34 = .ok (.goto 5, 3) := by decide +kernel
theorem dX10_type_37 : decode cX10_type 37 = .ok (.bipush 63, 2) := by decide +kernel
theorem dX10_type_39 : decode cX10_type 39 = .ok (.if_icmp .ne 6, 3) := by decide +kernel
theorem dX10_type_42 : decode cX10_type 42 = .ok (.bipush (-4), 2) := by decide +kernel
theorem dX10_type_44 : decode cX10_type 44 = .ok (.ireturn, 1) := by decide +kernel
theorem dX10_type_45 : decode cX10_type 45 = .ok (.aload_n 0, 1) := by decide +kernel
theorem dX10_type_46 : decode cX10_type 46 = .ok (.getfield 22, 3) := by decide +kernel
theorem dX10_type_49 : decode cX10_type 49 = .ok (.bipush 64, 2) := by decide +kernel
theorem dX10_type_51 : decode cX10_type 51 = .ok (.iload_n 1, 1) := by decide +kernel
theorem dX10_type_52 : decode cX10_type 52 = .ok (.imul, 1) := by decide +kernel
theorem dX10_type_53 : decode cX10_type 53 = .ok (.aload_n 0, 1) := by decide +kernel
theorem dX10_type_54 : decode cX10_type 54 = .ok (.getfield 25, 3) := by decide +kernel
theorem dX10_type_57 : decode cX10_type 57 = .ok (.iload_n 1, 1) := by decide +kernel
theorem dX10_type_58 : decode cX10_type 58 = .ok (.iaload, 1) := by decide +kernel
theorem dX10_type_59 : decode cX10_type 59 = .ok (.iadd, 1) := by decide +kernel
theorem dX10_type_60 : decode cX10_type 60 = .ok (.iload_n 2, 1) := by decide +kernel
theorem dX10_type_61 : decode cX10_type 61 = .ok (.iastore, 1) := by decide +kernel
theorem dX10_type_62 : decode cX10_type 62 = .ok (.aload_n 0, 1) := by decide +kernel
theorem dX10_type_63 : decode cX10_type 63 = .ok (.getfield 25, 3) := by decide +kernel
theorem dX10_type_66 : decode cX10_type 66 = .ok (.iload_n 1, 1) := by decide +kernel
theorem dX10_type_67 : decode cX10_type 67 = .ok (.dup2, 1) := by decide +kernel
theorem dX10_type_68 : decode cX10_type 68 = .ok (.iaload, 1) := by decide +kernel
theorem dX10_type_69 : decode cX10_type 69 = .ok (.iconst 1, 1) := by decide +kernel
theorem dX10_type_70 : decode cX10_type 70 = .ok (.iadd, 1) := by decide +kernel
theorem dX10_type_71 : decode cX10_type 71 = .ok (.iastore, 1) := by decide +kernel
theorem dX10_type_72 : decode cX10_type 72 = .ok (.aload_n 0, 1) := by decide +kernel
theorem dX10_type_73 : decode cX10_type 73 = .ok (.getfield 25, 3) := by decide +kernel
theorem dX10_type_76 : decode cX10_type 76 = .ok (.iload_n 1, 1) := by decide +kernel
theorem dX10_type_77 : decode cX10_type 77 = .ok (.iaload, 1) := by decide +kernel
theorem dX10_type_78 : decode cX10_type 78 = .ok (.ireturn, 1) := by decide +kernel
noncomputable def F10_type_b39 (v1 : Int32) (v2 : Int32) (s0 : Int32) (s1 : Int32) (M : Mem) : Option (Int32 × Mem) :=
  (if s0 = s1 then some ((-4 : Int32), M) else (ck v1 2 (ck (((64 : Int32) * v1) + (M 6 v1.toNatClampNeg)) 128 (lt (mset M 5 (((64 : Int32) * v1) + (M 6 v1.toNatClampNeg)).toNatClampNeg v2) (fun M13 => (ck v1 2 (ck v1 2 (lt (mset M13 6 v1.toNatClampNeg ((M13 6 v1.toNatClampNeg) + (1 : Int32))) (fun M16 => (ck v1 2 (some ((M16 6 v1.toNatClampNeg), M16))))))))))))
noncomputable def F10_type (v1 : Int32) (v2 : Int32) (mm : Mem) : Option (Int32 × Mem) :=
  ((F10_isTwo v1).bind (fun q18 => (if q18 = (0 : Int32) then some ((-2 : Int32), mm) else ((F10_in v2.toInt64 (0 : Int64) (255 : Int64)).bind (fun q19 => (if q19 = (0 : Int32) then some ((-2 : Int32), mm) else (ck v1 2 (if v1 = (0 : Int32) then (F10_type_b39 v1 v2) (mm 6 v1.toNatClampNeg) (23 : Int32) mm else (F10_type_b39 v1 v2) (mm 6 v1.toNatClampNeg) (63 : Int32) mm))))))))
set_option maxHeartbeats 4000000 in
set_option maxRecDepth 100000 in
theorem kX10_type (l : Launch) (g : GG) (v1 : Int32) (v2 : Int32) (mc mm : Mem) (q : Int32 × Mem) (hF : F10_type v1 v2 mm = some q) : KI l yX10_type cX10_type 3 .int 2 45 g [.ref (g.1 108), .int v1, .int v2] mc mm q.1 (mc, q.2) := by
  intro sz
  refine x_start (Qc := fun z => QI g z q.1 (mc, q.2)) (by decide +kernel) (Nat.le_of_ble_eq_true rfl) ?_ sz
  intro p e s m args below meth c ls Z hr hlk hP hl
  have hx := Z.1.1
  have hb := Z.1.2.1
  have hown := Z.1.2.2.2.1
  have hts := Z.1.2.2.2.2
  have hS : va_S (AA g s.heap.size) s.heap s.heap [] := va_S.rf
  have hl : lv_has ls 3 [(0, .ref (g.1 108)), (1, .int v1), (2, .int v2)] := hl
  unfold F10_type at hF
  have hb39 : ∀ (s0 : Int32) (s1 : Int32) (M : Mem), F10_type_b39 v1 v2 s0 s1 M = some q → ∀ (H : Heap) (locs : List Loc) (ls : Array Slot), lv_has ls 3 [(0, .ref (g.1 108)), (1, .int v1), (2, .int v2)] → va_P g.2.2.1 vwCl (wL g mc M) H → va_S (AA g s.heap.size) s.heap H locs → W p l e { frames := 2, cells := 0, slots := 0, locals := 45 } s m args below meth c H locs 0 0 (MQ below (QI g s.heap.size q.1 (mc, q.2)) args s 0 0 (AA g s.heap.size)) (F0 m 39 ls [.int s1, .int s0]) := by
    intro s0 s1 M hF H locs ls hl hP hS
    unfold F10_type_b39 at hF
    refine lv_icmp_ne (tgt := 45) hx hb dX10_type_39 rfl (fun hc => ?_) (fun hc => ?_)
    · have hF := (if_neg hc).symm.trans hF
      refine lv_aload_n hx hb dX10_type_45 rfl (lv_at hl 0 rfl) ?_
      refine gf10_5 Z hP wd_6_8 dX10_type_46 ?_
      refine lv_bipush (v := (64 : Int32)) hx hb dX10_type_49 bp_64 ?_
      refine lv_iload_n hx hb dX10_type_51 rfl (lv_at hl 1 rfl) ?_
      refine lv_imul hx hb dX10_type_52 ?_
      refine lv_aload_n hx hb dX10_type_53 rfl (lv_at hl 0 rfl) ?_
      refine gf10_6 Z hP wd_6_9 dX10_type_54 ?_
      refine lv_iload_n hx hb dX10_type_57 rfl (lv_at hl 1 rfl) ?_
      obtain ⟨hi11, hF⟩ := ck_ok hF
      refine rM_ld Z hP 2 6 (by decide +kernel) hi11 dX10_type_58 ?_
      refine lv_iadd hx hb dX10_type_59 ?_
      refine lv_iload_n hx hb dX10_type_60 rfl (lv_at hl 2 rfl) ?_
      obtain ⟨hi12, hF⟩ := ck_ok hF
      refine rM_st Z hP hS 128 5 (by decide +kernel) hi12 dX10_type_61 (fun H locs hP hS => ?_)
      refine lv_aload_n hx hb dX10_type_62 rfl (lv_at hl 0 rfl) ?_
      refine gf10_6 Z hP wd_6_9 dX10_type_63 ?_
      refine lv_iload_n hx hb dX10_type_66 rfl (lv_at hl 1 rfl) ?_
      refine lv_dup2_11 hx hb dX10_type_67 rfl rfl ?_
      obtain ⟨M13, eM13, hF⟩ := lt_ok hF
      have hP : va_P g.2.2.1 vwCl (wL g mc M13) H := by rw [eM13]; exact hP
      obtain ⟨hi14, hF⟩ := ck_ok hF
      refine rM_ld Z hP 2 6 (by decide +kernel) hi14 dX10_type_68 ?_
      refine lv_iconst (v := (1 : Int32)) hx hb dX10_type_69 ic_1 ?_
      refine lv_iadd hx hb dX10_type_70 ?_
      obtain ⟨hi15, hF⟩ := ck_ok hF
      refine rM_st Z hP hS 2 6 (by decide +kernel) hi15 dX10_type_71 (fun H locs hP hS => ?_)
      refine lv_aload_n hx hb dX10_type_72 rfl (lv_at hl 0 rfl) ?_
      refine gf10_6 Z hP wd_6_9 dX10_type_73 ?_
      refine lv_iload_n hx hb dX10_type_76 rfl (lv_at hl 1 rfl) ?_
      obtain ⟨M16, eM16, hF⟩ := lt_ok hF
      have hP : va_P g.2.2.1 vwCl (wL g mc M16) H := by rw [eM16]; exact hP
      obtain ⟨hi17, hF⟩ := ck_ok hF
      refine rM_ld Z hP 2 6 (by decide +kernel) hi17 dX10_type_77 ?_
      exact ret_IWM Z hr hlk hP hS hF dX10_type_78
    · have hF := (if_pos hc).symm.trans hF
      refine lv_bipush (v := (-4 : Int32)) hx hb dX10_type_42 bp_m4 ?_
      exact ret_IWM Z hr hlk hP hS hF dX10_type_44
  refine lv_iload_n hx hb dX10_type_0 rfl (lv_at hl 1 rfl) ?_
  obtain ⟨q18, hq18, hF⟩ := bd_ok hF
  refine xX10_isTwo Z hP hS hq18 wd_13_5 hl.1 (Nat.le_of_ble_eq_true rfl) ⟨Nat.le_of_ble_eq_true rfl, Nat.le_of_ble_eq_true rfl⟩ dX10_type_1 (fun H locs hP hS => ?_)
  refine lv_if_eq (tgt := 19) hx hb dX10_type_4 rfl (fun hc => ?_) (fun hc => ?_)
  · have hF := (if_pos hc).symm.trans hF
    refine lv_bipush (v := (-2 : Int32)) hx hb dX10_type_19 bp_m2 ?_
    exact ret_IWM Z hr hlk hP hS hF dX10_type_21
  · have hF := (if_neg hc).symm.trans hF
    refine lv_iload_n hx hb dX10_type_7 rfl (lv_at hl 2 rfl) ?_
    refine lv_i2l (v := v2.toInt64) hx hb dX10_type_8 rfl ?_
    refine lv_lconst (v := (0 : Int64)) hx hb dX10_type_9 lc_0 ?_
    refine lv_ldc2 (v := (255 : Int64)) hx hb hown (hts _ wd_13_4) dX10_type_10 ?_
    obtain ⟨q19, hq19, hF⟩ := bd_ok hF
    refine xX10_in Z hP hS hq19 wd_13_8 hl.1 (Nat.le_of_ble_eq_true rfl) ⟨Nat.le_of_ble_eq_true rfl, Nat.le_of_ble_eq_true rfl⟩ dX10_type_13 (fun H locs hP hS => ?_)
    refine lv_if_ne (tgt := 22) hx hb dX10_type_16 rfl (fun hc => ?_) (fun hc => ?_)
    · have hF := (if_neg hc).symm.trans hF
      refine lv_aload_n hx hb dX10_type_22 rfl (lv_at hl 0 rfl) ?_
      refine gf10_6 Z hP wd_6_9 dX10_type_23 ?_
      refine lv_iload_n hx hb dX10_type_26 rfl (lv_at hl 1 rfl) ?_
      obtain ⟨hi20, hF⟩ := ck_ok hF
      refine rM_ld Z hP 2 6 (by decide +kernel) hi20 dX10_type_27 ?_
      refine lv_iload_n hx hb dX10_type_28 rfl (lv_at hl 1 rfl) ?_
      refine lv_if_ne (tgt := 37) hx hb dX10_type_29 rfl (fun hc => ?_) (fun hc => ?_)
      · have hF := (if_neg hc).symm.trans hF
        refine lv_bipush (v := (63 : Int32)) hx hb dX10_type_37 bp_63 ?_
        exact hb39 _ _ _ hF _ _ _ (lv_sub hl [0, 1, 2] rfl) hP hS
      · have hF := (if_pos hc).symm.trans hF
        refine lv_bipush (v := (23 : Int32)) hx hb dX10_type_32 bp_23 ?_
        refine lv_goto (tgt := 39) hx hb dX10_type_34 rfl ?_
        exact hb39 _ _ _ hF _ _ _ (lv_sub hl [0, 1, 2] rfl) hP hS
    · have hF := (if_pos hc).symm.trans hF
      refine lv_bipush (v := (-2 : Int32)) hx hb dX10_type_19 bp_m2 ?_
      exact ret_IWM Z hr hlk hP hS hF dX10_type_21
theorem xX10_type {p : Program} {l : Launch} {e : Env} {R : Room} {s : State} {m : MethodId} {args : Array Value} {below : List Frame} {meth : Method} {c : Code} {H : Heap} {locs : List Loc} {Q : State → Prop} {cc : ByteArray} {nL : Nat} {own : String} {g : GG} {pc index : Nat} {ls : Array Slot} {rest : List Value} {mc mm : Mem} (Z : ZZ p s m args c cc nL own g) (hP : va_P g.2.2.1 vwCl (wL g mc mm) H) (hS : va_S (AA g s.heap.size) s.heap H locs) {v1 : Int32} {v2 : Int32} {q : Int32 × Mem} (hq : F10_type v1 v2 mm = some q) (hlk : Cond.methodLink own index yX10_type ∈ wsL_law) (hsz : ls.size = nL) (hro : (rest.map fun v => v.category).sum ≤ 8) (hR : 2 + 1 ≤ R.frames ∧ 8 + (3 + 11) + 45 ≤ R.locals) (hdg : decode cc pc = .ok (.invokevirtual index, 3)) (kk : ∀ (H : Heap) (locs : List Loc), va_P g.2.2.1 vwCl (wL g mc q.2) H → va_S (AA g s.heap.size) s.heap H locs → W p l e R s m args below meth c H locs 0 0 Q (F0 m (pc + 3) ls (.int q.1 :: rest))) : W p l e R s m args below meth c H locs 0 0 Q (F0 m pc ls (.int v2 :: .int v1 :: .ref (g.1 108) :: rest)) :=
  x_VI Z hP hS (kX10_type l g v1 v2 mc mm q hq) (mO) (ci := 10) (by decide) rfl rfl mf_X10_type mv_X10_type hlk rfl rfl hsz hro hR hdg kk
theorem dX10_wipe_0 : decode cX10_wipe 0 = .ok (.iload_n 1, 1) := by decide +kernel
theorem dX10_wipe_1 : decode cX10_wipe 1 = .ok (.invokestatic 111, 3) := by decide +kernel
theorem dX10_wipe_4 : decode cX10_wipe 4 = .ok (.ifCond .ne 6, 3) := by decide +kernel
theorem dX10_wipe_7 : decode cX10_wipe 7 = .ok (.bipush (-2), 2) := by decide +kernel
theorem dX10_wipe_9 : decode cX10_wipe 9 = .ok (.ireturn, 1) := by decide +kernel
theorem dX10_wipe_10 : decode cX10_wipe 10 = .ok (.aload_n 0, 1) := by decide +kernel
theorem dX10_wipe_11 : decode cX10_wipe 11 = .ok (.getfield 25, 3) := by decide +kernel
theorem dX10_wipe_14 : decode cX10_wipe 14 = .ok (.iload_n 1, 1) := by decide +kernel
theorem dX10_wipe_15 : decode cX10_wipe 15 = .ok (.iaload, 1) := by decide +kernel
theorem dX10_wipe_16 : decode cX10_wipe 16 = .ok (.istore_n 2, 1) := by decide +kernel
theorem dX10_wipe_17 : decode cX10_wipe 17 = .ok (.aload_n 0, 1) := by decide +kernel
theorem dX10_wipe_18 : decode cX10_wipe 18 = .ok (.getfield 25, 3) := by decide +kernel
theorem dX10_wipe_21 : decode cX10_wipe 21 = .ok (.iload_n 1, 1) := by decide +kernel
theorem dX10_wipe_22 : decode cX10_wipe 22 = .ok (.iconst 0, 1) := by decide +kernel
theorem dX10_wipe_23 : decode cX10_wipe 23 = .ok (.iastore, 1) := by decide +kernel
theorem dX10_wipe_24 : decode cX10_wipe 24 = .ok (.iload_n 2, 1) := by decide +kernel
theorem dX10_wipe_25 : decode cX10_wipe 25 = .ok (.ireturn, 1) := by decide +kernel
noncomputable def F10_wipe (v1 : Int32) (mm : Mem) : Option (Int32 × Mem) :=
  ((F10_isTwo v1).bind (fun q4 => (if q4 = (0 : Int32) then some ((-2 : Int32), mm) else (ck v1 2 (ck v1 2 (some ((mm 6 v1.toNatClampNeg), (mset mm 6 v1.toNatClampNeg (0 : Int32)))))))))
set_option maxHeartbeats 4000000 in
set_option maxRecDepth 100000 in
theorem kX10_wipe (l : Launch) (g : GG) (v1 : Int32) (mc mm : Mem) (q : Int32 × Mem) (hF : F10_wipe v1 mm = some q) : KI l yX10_wipe cX10_wipe 3 .int 2 45 g [.ref (g.1 108), .int v1] mc mm q.1 (mc, q.2) := by
  intro sz
  refine x_start (Qc := fun z => QI g z q.1 (mc, q.2)) (by decide +kernel) (Nat.le_of_ble_eq_true rfl) ?_ sz
  intro p e s m args below meth c ls Z hr hlk hP hl
  have hx := Z.1.1
  have hb := Z.1.2.1
  have hown := Z.1.2.2.2.1
  have hts := Z.1.2.2.2.2
  have hS : va_S (AA g s.heap.size) s.heap s.heap [] := va_S.rf
  have hl : lv_has ls 3 [(0, .ref (g.1 108)), (1, .int v1)] := hl
  unfold F10_wipe at hF
  refine lv_iload_n hx hb dX10_wipe_0 rfl (lv_at hl 1 rfl) ?_
  obtain ⟨q4, hq4, hF⟩ := bd_ok hF
  refine xX10_isTwo Z hP hS hq4 wd_13_5 hl.1 (Nat.le_of_ble_eq_true rfl) ⟨Nat.le_of_ble_eq_true rfl, Nat.le_of_ble_eq_true rfl⟩ dX10_wipe_1 (fun H locs hP hS => ?_)
  refine lv_if_ne (tgt := 10) hx hb dX10_wipe_4 rfl (fun hc => ?_) (fun hc => ?_)
  · have hF := (if_neg hc).symm.trans hF
    refine lv_aload_n hx hb dX10_wipe_10 rfl (lv_at hl 0 rfl) ?_
    refine gf10_6 Z hP wd_6_9 dX10_wipe_11 ?_
    refine lv_iload_n hx hb dX10_wipe_14 rfl (lv_at hl 1 rfl) ?_
    obtain ⟨hi5, hF⟩ := ck_ok hF
    refine rM_ld Z hP 2 6 (by decide +kernel) hi5 dX10_wipe_15 ?_
    refine lv_istore_n (lv' := [(2, .int (mm 6 v1.toNatClampNeg)), (0, .ref (g.1 108)), (1, .int v1)]) hx hb dX10_wipe_16 rfl hl (Nat.le_of_ble_eq_true rfl) rfl (fun ls hl => ?_)
    refine lv_aload_n hx hb dX10_wipe_17 rfl (lv_at hl 1 rfl) ?_
    refine gf10_6 Z hP wd_6_9 dX10_wipe_18 ?_
    refine lv_iload_n hx hb dX10_wipe_21 rfl (lv_at hl 2 rfl) ?_
    refine lv_iconst (v := (0 : Int32)) hx hb dX10_wipe_22 ic_0 ?_
    obtain ⟨hi6, hF⟩ := ck_ok hF
    refine rM_st Z hP hS 2 6 (by decide +kernel) hi6 dX10_wipe_23 (fun H locs hP hS => ?_)
    refine lv_iload_n hx hb dX10_wipe_24 rfl (lv_at hl 0 rfl) ?_
    exact ret_IWM Z hr hlk hP hS hF dX10_wipe_25
  · have hF := (if_pos hc).symm.trans hF
    refine lv_bipush (v := (-2 : Int32)) hx hb dX10_wipe_7 bp_m2 ?_
    exact ret_IWM Z hr hlk hP hS hF dX10_wipe_9
theorem xX10_wipe {p : Program} {l : Launch} {e : Env} {R : Room} {s : State} {m : MethodId} {args : Array Value} {below : List Frame} {meth : Method} {c : Code} {H : Heap} {locs : List Loc} {Q : State → Prop} {cc : ByteArray} {nL : Nat} {own : String} {g : GG} {pc index : Nat} {ls : Array Slot} {rest : List Value} {mc mm : Mem} (Z : ZZ p s m args c cc nL own g) (hP : va_P g.2.2.1 vwCl (wL g mc mm) H) (hS : va_S (AA g s.heap.size) s.heap H locs) {v1 : Int32} {q : Int32 × Mem} (hq : F10_wipe v1 mm = some q) (hlk : Cond.methodLink own index yX10_wipe ∈ wsL_law) (hsz : ls.size = nL) (hro : (rest.map fun v => v.category).sum ≤ 8) (hR : 2 + 1 ≤ R.frames ∧ 8 + (3 + 11) + 45 ≤ R.locals) (hdg : decode cc pc = .ok (.invokevirtual index, 3)) (kk : ∀ (H : Heap) (locs : List Loc), va_P g.2.2.1 vwCl (wL g mc q.2) H → va_S (AA g s.heap.size) s.heap H locs → W p l e R s m args below meth c H locs 0 0 Q (F0 m (pc + 3) ls (.int q.1 :: rest))) : W p l e R s m args below meth c H locs 0 0 Q (F0 m pc ls (.int v1 :: .ref (g.1 108) :: rest)) :=
  x_VI Z hP hS (kX10_wipe l g v1 mc mm q hq) (mO) (ci := 10) (by decide) rfl rfl mf_X10_wipe mv_X10_wipe hlk rfl rfl hsz hro hR hdg kk
theorem dX10_undo_0 : decode cX10_undo 0 = .ok (.iload_n 1, 1) := by decide +kernel
theorem dX10_undo_1 : decode cX10_undo 1 = .ok (.invokestatic 111, 3) := by decide +kernel
theorem dX10_undo_4 : decode cX10_undo 4 = .ok (.ifCond .ne 6, 3) := by decide +kernel
theorem dX10_undo_7 : decode cX10_undo 7 = .ok (.bipush (-2), 2) := by decide +kernel
theorem dX10_undo_9 : decode cX10_undo 9 = .ok (.ireturn, 1) := by decide +kernel
theorem dX10_undo_10 : decode cX10_undo 10 = .ok (.aload_n 0, 1) := by decide +kernel
theorem dX10_undo_11 : decode cX10_undo 11 = .ok (.getfield 25, 3) := by decide +kernel
theorem dX10_undo_14 : decode cX10_undo 14 = .ok (.iload_n 1, 1) := by decide +kernel
theorem dX10_undo_15 : decode cX10_undo 15 = .ok (.iaload, 1) := by decide +kernel
theorem dX10_undo_16 : decode cX10_undo 16 = .ok (.ifCond .ne 6, 3) := by decide +kernel
theorem dX10_undo_19 : decode cX10_undo 19 = .ok (.bipush (-3), 2) := by decide +kernel
theorem dX10_undo_21 : decode cX10_undo 21 = .ok (.ireturn, 1) := by decide +kernel
theorem dX10_undo_22 : decode cX10_undo 22 = .ok (.aload_n 0, 1) := by decide +kernel
theorem dX10_undo_23 : decode cX10_undo 23 = .ok (.getfield 25, 3) := by decide +kernel
theorem dX10_undo_26 : decode cX10_undo 26 = .ok (.iload_n 1, 1) := by decide +kernel
theorem dX10_undo_27 : decode cX10_undo 27 = .ok (.dup2, 1) := by decide +kernel
theorem dX10_undo_28 : decode cX10_undo 28 = .ok (.iaload, 1) := by decide +kernel
theorem dX10_undo_29 : decode cX10_undo 29 = .ok (.iconst 1, 1) := by decide +kernel
theorem dX10_undo_30 : decode cX10_undo 30 = .ok (.isub, 1) := by decide +kernel
theorem dX10_undo_31 : decode cX10_undo 31 = .ok (.iastore, 1) := by decide +kernel
theorem dX10_undo_32 : decode cX10_undo 32 = .ok (.aload_n 0, 1) := by decide +kernel
theorem dX10_undo_33 : decode cX10_undo 33 = .ok (.getfield 25, 3) := by decide +kernel
theorem dX10_undo_36 : decode cX10_undo 36 = .ok (.iload_n 1, 1) := by decide +kernel
theorem dX10_undo_37 : decode cX10_undo 37 = .ok (.iaload, 1) := by decide +kernel
theorem dX10_undo_38 : decode cX10_undo 38 = .ok (.ireturn, 1) := by decide +kernel
noncomputable def F10_undo (v1 : Int32) (mm : Mem) : Option (Int32 × Mem) :=
  ((F10_isTwo v1).bind (fun q7 => (if q7 = (0 : Int32) then some ((-2 : Int32), mm) else (ck v1 2 (if (mm 6 v1.toNatClampNeg) = (0 : Int32) then some ((-3 : Int32), mm) else (ck v1 2 (ck v1 2 (lt (mset mm 6 v1.toNatClampNeg ((mm 6 v1.toNatClampNeg) - (1 : Int32))) (fun M11 => (ck v1 2 (some ((M11 6 v1.toNatClampNeg), M11))))))))))))
set_option maxHeartbeats 4000000 in
set_option maxRecDepth 100000 in
theorem kX10_undo (l : Launch) (g : GG) (v1 : Int32) (mc mm : Mem) (q : Int32 × Mem) (hF : F10_undo v1 mm = some q) : KI l yX10_undo cX10_undo 2 .int 2 45 g [.ref (g.1 108), .int v1] mc mm q.1 (mc, q.2) := by
  intro sz
  refine x_start (Qc := fun z => QI g z q.1 (mc, q.2)) (by decide +kernel) (Nat.le_of_ble_eq_true rfl) ?_ sz
  intro p e s m args below meth c ls Z hr hlk hP hl
  have hx := Z.1.1
  have hb := Z.1.2.1
  have hown := Z.1.2.2.2.1
  have hts := Z.1.2.2.2.2
  have hS : va_S (AA g s.heap.size) s.heap s.heap [] := va_S.rf
  have hl : lv_has ls 2 [(0, .ref (g.1 108)), (1, .int v1)] := hl
  unfold F10_undo at hF
  refine lv_iload_n hx hb dX10_undo_0 rfl (lv_at hl 1 rfl) ?_
  obtain ⟨q7, hq7, hF⟩ := bd_ok hF
  refine xX10_isTwo Z hP hS hq7 wd_13_5 hl.1 (Nat.le_of_ble_eq_true rfl) ⟨Nat.le_of_ble_eq_true rfl, Nat.le_of_ble_eq_true rfl⟩ dX10_undo_1 (fun H locs hP hS => ?_)
  refine lv_if_ne (tgt := 10) hx hb dX10_undo_4 rfl (fun hc => ?_) (fun hc => ?_)
  · have hF := (if_neg hc).symm.trans hF
    refine lv_aload_n hx hb dX10_undo_10 rfl (lv_at hl 0 rfl) ?_
    refine gf10_6 Z hP wd_6_9 dX10_undo_11 ?_
    refine lv_iload_n hx hb dX10_undo_14 rfl (lv_at hl 1 rfl) ?_
    obtain ⟨hi8, hF⟩ := ck_ok hF
    refine rM_ld Z hP 2 6 (by decide +kernel) hi8 dX10_undo_15 ?_
    refine lv_if_ne (tgt := 22) hx hb dX10_undo_16 rfl (fun hc => ?_) (fun hc => ?_)
    · have hF := (if_neg hc).symm.trans hF
      refine lv_aload_n hx hb dX10_undo_22 rfl (lv_at hl 0 rfl) ?_
      refine gf10_6 Z hP wd_6_9 dX10_undo_23 ?_
      refine lv_iload_n hx hb dX10_undo_26 rfl (lv_at hl 1 rfl) ?_
      refine lv_dup2_11 hx hb dX10_undo_27 rfl rfl ?_
      obtain ⟨hi9, hF⟩ := ck_ok hF
      refine rM_ld Z hP 2 6 (by decide +kernel) hi9 dX10_undo_28 ?_
      refine lv_iconst (v := (1 : Int32)) hx hb dX10_undo_29 ic_1 ?_
      refine lv_isub hx hb dX10_undo_30 ?_
      obtain ⟨hi10, hF⟩ := ck_ok hF
      refine rM_st Z hP hS 2 6 (by decide +kernel) hi10 dX10_undo_31 (fun H locs hP hS => ?_)
      refine lv_aload_n hx hb dX10_undo_32 rfl (lv_at hl 0 rfl) ?_
      refine gf10_6 Z hP wd_6_9 dX10_undo_33 ?_
      refine lv_iload_n hx hb dX10_undo_36 rfl (lv_at hl 1 rfl) ?_
      obtain ⟨M11, eM11, hF⟩ := lt_ok hF
      have hP : va_P g.2.2.1 vwCl (wL g mc M11) H := by rw [eM11]; exact hP
      obtain ⟨hi12, hF⟩ := ck_ok hF
      refine rM_ld Z hP 2 6 (by decide +kernel) hi12 dX10_undo_37 ?_
      exact ret_IWM Z hr hlk hP hS hF dX10_undo_38
    · have hF := (if_pos hc).symm.trans hF
      refine lv_bipush (v := (-3 : Int32)) hx hb dX10_undo_19 bp_m3 ?_
      exact ret_IWM Z hr hlk hP hS hF dX10_undo_21
  · have hF := (if_pos hc).symm.trans hF
    refine lv_bipush (v := (-2 : Int32)) hx hb dX10_undo_7 bp_m2 ?_
    exact ret_IWM Z hr hlk hP hS hF dX10_undo_9
theorem xX10_undo {p : Program} {l : Launch} {e : Env} {R : Room} {s : State} {m : MethodId} {args : Array Value} {below : List Frame} {meth : Method} {c : Code} {H : Heap} {locs : List Loc} {Q : State → Prop} {cc : ByteArray} {nL : Nat} {own : String} {g : GG} {pc index : Nat} {ls : Array Slot} {rest : List Value} {mc mm : Mem} (Z : ZZ p s m args c cc nL own g) (hP : va_P g.2.2.1 vwCl (wL g mc mm) H) (hS : va_S (AA g s.heap.size) s.heap H locs) {v1 : Int32} {q : Int32 × Mem} (hq : F10_undo v1 mm = some q) (hlk : Cond.methodLink own index yX10_undo ∈ wsL_law) (hsz : ls.size = nL) (hro : (rest.map fun v => v.category).sum ≤ 8) (hR : 2 + 1 ≤ R.frames ∧ 8 + (2 + 11) + 45 ≤ R.locals) (hdg : decode cc pc = .ok (.invokevirtual index, 3)) (kk : ∀ (H : Heap) (locs : List Loc), va_P g.2.2.1 vwCl (wL g mc q.2) H → va_S (AA g s.heap.size) s.heap H locs → W p l e R s m args below meth c H locs 0 0 Q (F0 m (pc + 3) ls (.int q.1 :: rest))) : W p l e R s m args below meth c H locs 0 0 Q (F0 m pc ls (.int v1 :: .ref (g.1 108) :: rest)) :=
  x_VI Z hP hS (kX10_undo l g v1 mc mm q hq) (mO) (ci := 10) (by decide) rfl rfl mf_X10_undo mv_X10_undo hlk rfl rfl hsz hro hR hdg kk
theorem dX10_wellOf_0 : decode cX10_wellOf 0 = .ok (.iload_n 0, 1) := by decide +kernel
theorem dX10_wellOf_1 : decode cX10_wellOf 1 = .ok (.ifCond .ne 36, 3) := by decide +kernel
theorem dX10_wellOf_4 : decode cX10_wellOf 4 = .ok (.iload_n 1, 1) := by decide +kernel
theorem dX10_wellOf_5 : decode cX10_wellOf 5 = .ok (.bipush 103, 2) := by decide +kernel
theorem dX10_wellOf_7 : decode cX10_wellOf 7 = .ok (.if_icmp .ne 7, 3) := by decide +kernel
theorem dX10_wellOf_10 : decode cX10_wellOf 10 = .ok (.iconst 0, 1) := by decide +kernel
theorem dX10_wellOf_11 : decode cX10_wellOf 11 = .ok (.goto 25, 3) := by decide +kernel
theorem dX10_wellOf_14 : decode cX10_wellOf 14 = .ok (.iload_n 1, 1) := by decide +kernel
theorem dX10_wellOf_15 : decode cX10_wellOf 15 = .ok (.bipush 99, 2) := by decide +kernel
theorem dX10_wellOf_17 : decode cX10_wellOf 17 = .ok (.if_icmp .ne 7, 3) := by decide +kernel
theorem dX10_wellOf_20 : decode cX10_wellOf 20 = .ok (.iconst 1, 1) := by decide +kernel
theorem dX10_wellOf_21 : decode cX10_wellOf 21 = .ok (.goto 15, 3) := by decide +kernel
theorem dX10_wellOf_24 : decode cX10_wellOf 24 = .ok (.iload_n 1, 1) := by decide +kernel
theorem dX10_wellOf_25 : decode cX10_wellOf 25 = .ok (.bipush 115, 2) := by decide +kernel
theorem dX10_wellOf_27 : decode cX10_wellOf 27 = .ok (.if_icmp .ne 7, 3) := by decide +kernel
theorem dX10_wellOf_30 : decode cX10_wellOf 30 = .ok (.iconst 2, 1) := by decide +kernel
theorem dX10_wellOf_31 : decode cX10_wellOf 31 = .ok (.goto 5, 3) := by decide +kernel
theorem dX10_wellOf_34 : decode cX10_wellOf 34 = .ok (.bipush (-9), 2) := by decide +kernel
theorem dX10_wellOf_36 : decode cX10_wellOf 36 = .ok (.ireturn, 1) := by decide +kernel
theorem dX10_wellOf_37 : decode cX10_wellOf 37 = .ok (.iload_n 0, 1) := by decide +kernel
theorem dX10_wellOf_38 : decode cX10_wellOf 38 = .ok (.iconst 1, 1) := by decide +kernel
theorem dX10_wellOf_39 : decode cX10_wellOf 39 = .ok (.if_icmp .ne 29, 3) := by decide +kernel
theorem dX10_wellOf_42 : decode cX10_wellOf 42 = .ok (.iload_n 1, 1) := by decide +kernel
theorem dX10_wellOf_43 : decode cX10_wellOf 43 = .ok (.i2l, 1) := by decide +kernel
theorem dX10_wellOf_44 : decode cX10_wellOf 44 = .ok (.ldc2_w 116, 3) := by decide +kernel
theorem dX10_wellOf_47 : decode cX10_wellOf 47 = .ok (.ldc2_w 118, 3) := by decide +kernel
theorem dX10_wellOf_50 : decode cX10_wellOf 50 = .ok (.invokestatic 83, 3) := by decide +kernel
theorem dX10_wellOf_53 : decode cX10_wellOf 53 = .ok (.ifCond .eq 10, 3) := by decide +kernel
theorem dX10_wellOf_56 : decode cX10_wellOf 56 = .ok (.iload_n 1, 1) := by decide +kernel
theorem dX10_wellOf_57 : decode cX10_wellOf 57 = .ok (.bipush 48, 2) := by decide +kernel
theorem dX10_wellOf_59 : decode cX10_wellOf 59 = .ok (.isub, 1) := by decide +kernel
theorem dX10_wellOf_60 : decode cX10_wellOf 60 = .ok (.goto 20, 3) := by decide +kernel
theorem dX10_wellOf_63 : decode cX10_wellOf 63 = .ok (.bipush (-9), 2) := by decide +kernel
theorem dX10_wellOf_65 : decode cX10_wellOf 65 = .ok (.goto 15, 3) := by decide +kernel
theorem dX10_wellOf_68 : decode cX10_wellOf 68 = .ok (.iload_n 1, 1) := by decide +kernel
theorem dX10_wellOf_69 : decode cX10_wellOf 69 = .ok (.bipush 59, 2) := by decide +kernel
theorem dX10_wellOf_71 : decode cX10_wellOf 71 = .ok (.if_icmp .ne 7, 3) := by decide +kernel
theorem dX10_wellOf_74 : decode cX10_wellOf 74 = .ok (.iconst 0, 1) := by decide +kernel
theorem dX10_wellOf_75 : decode cX10_wellOf 75 = .ok (.goto 5, 3) := by decide +kernel
theorem dX10_wellOf_78 : decode cX10_wellOf 78 = .ok (.bipush (-9), 2) := by decide +kernel
theorem dX10_wellOf_80 : decode cX10_wellOf 80 = .ok (.ireturn, 1) := by decide +kernel
noncomputable def F10_wellOf (v0 : Int32) (v1 : Int32) : Option (Int32) :=
  (if v0 = (0 : Int32) then (if v1 = (103 : Int32) then some (0 : Int32) else (if v1 = (99 : Int32) then some (1 : Int32) else (if v1 = (115 : Int32) then some (2 : Int32) else some (-9 : Int32)))) else (if v0 = (1 : Int32) then ((F10_in v1.toInt64 (48 : Int64) (57 : Int64)).bind (fun q2 => (if q2 = (0 : Int32) then some (-9 : Int32) else some (v1 - (48 : Int32))))) else (if v1 = (59 : Int32) then some (0 : Int32) else some (-9 : Int32))))
set_option maxHeartbeats 4000000 in
set_option maxRecDepth 100000 in
theorem kX10_wellOf (l : Launch) (g : GG) (v0 : Int32) (v1 : Int32) (mc mm : Mem) (q : Int32) (hF : F10_wellOf v0 v1 = some q) : KI l yX10_wellOf cX10_wellOf 2 .int 1 25 g [.int v0, .int v1] mc mm q (mc, mm) := by
  intro sz
  refine x_start (Qc := fun z => QI g z q (mc, mm)) (by decide +kernel) (Nat.le_of_ble_eq_true rfl) ?_ sz
  intro p e s m args below meth c ls Z hr hlk hP hl
  have hx := Z.1.1
  have hb := Z.1.2.1
  have hown := Z.1.2.2.2.1
  have hts := Z.1.2.2.2.2
  have hS : va_S (AA g s.heap.size) s.heap s.heap [] := va_S.rf
  have hl : lv_has ls 2 [(0, .int v0), (1, .int v1)] := hl
  unfold F10_wellOf at hF
  refine lv_iload_n hx hb dX10_wellOf_0 rfl (lv_at hl 0 rfl) ?_
  refine lv_if_ne (tgt := 37) hx hb dX10_wellOf_1 rfl (fun hc => ?_) (fun hc => ?_)
  · have hF := (if_neg hc).symm.trans hF
    refine lv_iload_n hx hb dX10_wellOf_37 rfl (lv_at hl 0 rfl) ?_
    refine lv_iconst (v := (1 : Int32)) hx hb dX10_wellOf_38 ic_1 ?_
    refine lv_icmp_ne (tgt := 68) hx hb dX10_wellOf_39 rfl (fun hc => ?_) (fun hc => ?_)
    · have hF := (if_neg hc).symm.trans hF
      refine lv_iload_n hx hb dX10_wellOf_68 rfl (lv_at hl 1 rfl) ?_
      refine lv_bipush (v := (59 : Int32)) hx hb dX10_wellOf_69 bp_59 ?_
      refine lv_icmp_ne (tgt := 78) hx hb dX10_wellOf_71 rfl (fun hc => ?_) (fun hc => ?_)
      · have hF := (if_neg hc).symm.trans hF
        refine lv_bipush (v := (-9 : Int32)) hx hb dX10_wellOf_78 bp_m9 ?_
        exact ret_I Z hr hlk hP hS hF dX10_wellOf_80
      · have hF := (if_pos hc).symm.trans hF
        refine lv_iconst (v := (0 : Int32)) hx hb dX10_wellOf_74 ic_0 ?_
        refine lv_goto (tgt := 80) hx hb dX10_wellOf_75 rfl ?_
        exact ret_I Z hr hlk hP hS hF dX10_wellOf_80
    · have hF := (if_pos hc).symm.trans hF
      refine lv_iload_n hx hb dX10_wellOf_42 rfl (lv_at hl 1 rfl) ?_
      refine lv_i2l (v := v1.toInt64) hx hb dX10_wellOf_43 rfl ?_
      refine lv_ldc2 (v := (48 : Int64)) hx hb hown (hts _ wd_14_23) dX10_wellOf_44 ?_
      refine lv_ldc2 (v := (57 : Int64)) hx hb hown (hts _ wd_15_0) dX10_wellOf_47 ?_
      obtain ⟨q2, hq2, hF⟩ := bd_ok hF
      refine xX10_in Z hP hS hq2 wd_13_8 hl.1 (Nat.le_of_ble_eq_true rfl) ⟨Nat.le_of_ble_eq_true rfl, Nat.le_of_ble_eq_true rfl⟩ dX10_wellOf_50 (fun H locs hP hS => ?_)
      refine lv_if_eq (tgt := 63) hx hb dX10_wellOf_53 rfl (fun hc => ?_) (fun hc => ?_)
      · have hF := (if_pos hc).symm.trans hF
        refine lv_bipush (v := (-9 : Int32)) hx hb dX10_wellOf_63 bp_m9 ?_
        refine lv_goto (tgt := 80) hx hb dX10_wellOf_65 rfl ?_
        exact ret_I Z hr hlk hP hS hF dX10_wellOf_80
      · have hF := (if_neg hc).symm.trans hF
        refine lv_iload_n hx hb dX10_wellOf_56 rfl (lv_at hl 1 rfl) ?_
        refine lv_bipush (v := (48 : Int32)) hx hb dX10_wellOf_57 bp_48 ?_
        refine lv_isub hx hb dX10_wellOf_59 ?_
        refine lv_goto (tgt := 80) hx hb dX10_wellOf_60 rfl ?_
        exact ret_I Z hr hlk hP hS hF dX10_wellOf_80
  · have hF := (if_pos hc).symm.trans hF
    refine lv_iload_n hx hb dX10_wellOf_4 rfl (lv_at hl 1 rfl) ?_
    refine lv_bipush (v := (103 : Int32)) hx hb dX10_wellOf_5 bp_103 ?_
    refine lv_icmp_ne (tgt := 14) hx hb dX10_wellOf_7 rfl (fun hc => ?_) (fun hc => ?_)
    · have hF := (if_neg hc).symm.trans hF
      refine lv_iload_n hx hb dX10_wellOf_14 rfl (lv_at hl 1 rfl) ?_
      refine lv_bipush (v := (99 : Int32)) hx hb dX10_wellOf_15 bp_99 ?_
      refine lv_icmp_ne (tgt := 24) hx hb dX10_wellOf_17 rfl (fun hc => ?_) (fun hc => ?_)
      · have hF := (if_neg hc).symm.trans hF
        refine lv_iload_n hx hb dX10_wellOf_24 rfl (lv_at hl 1 rfl) ?_
        refine lv_bipush (v := (115 : Int32)) hx hb dX10_wellOf_25 bp_115 ?_
        refine lv_icmp_ne (tgt := 34) hx hb dX10_wellOf_27 rfl (fun hc => ?_) (fun hc => ?_)
        · have hF := (if_neg hc).symm.trans hF
          refine lv_bipush (v := (-9 : Int32)) hx hb dX10_wellOf_34 bp_m9 ?_
          exact ret_I Z hr hlk hP hS hF dX10_wellOf_36
        · have hF := (if_pos hc).symm.trans hF
          refine lv_iconst (v := (2 : Int32)) hx hb dX10_wellOf_30 ic_2 ?_
          refine lv_goto (tgt := 36) hx hb dX10_wellOf_31 rfl ?_
          exact ret_I Z hr hlk hP hS hF dX10_wellOf_36
      · have hF := (if_pos hc).symm.trans hF
        refine lv_iconst (v := (1 : Int32)) hx hb dX10_wellOf_20 ic_1 ?_
        refine lv_goto (tgt := 36) hx hb dX10_wellOf_21 rfl ?_
        exact ret_I Z hr hlk hP hS hF dX10_wellOf_36
    · have hF := (if_pos hc).symm.trans hF
      refine lv_iconst (v := (0 : Int32)) hx hb dX10_wellOf_10 ic_0 ?_
      refine lv_goto (tgt := 36) hx hb dX10_wellOf_11 rfl ?_
      exact ret_I Z hr hlk hP hS hF dX10_wellOf_36
theorem xX10_wellOf {p : Program} {l : Launch} {e : Env} {R : Room} {s : State} {m : MethodId} {args : Array Value} {below : List Frame} {meth : Method} {c : Code} {H : Heap} {locs : List Loc} {Q : State → Prop} {cc : ByteArray} {nL : Nat} {own : String} {g : GG} {pc index : Nat} {ls : Array Slot} {rest : List Value} {mc mm : Mem} (Z : ZZ p s m args c cc nL own g) (hP : va_P g.2.2.1 vwCl (wL g mc mm) H) (hS : va_S (AA g s.heap.size) s.heap H locs) {v0 : Int32} {v1 : Int32} {q : Int32} (hq : F10_wellOf v0 v1 = some q) (hlk : Cond.methodLink own index yX10_wellOf ∈ wsL_law) (hsz : ls.size = nL) (hro : (rest.map fun v => v.category).sum ≤ 8) (hR : 1 + 1 ≤ R.frames ∧ 8 + (2 + 11) + 25 ≤ R.locals) (hdg : decode cc pc = .ok (.invokestatic index, 3)) (kk : ∀ (H : Heap) (locs : List Loc), va_P g.2.2.1 vwCl (wL g mc mm) H → va_S (AA g s.heap.size) s.heap H locs → W p l e R s m args below meth c H locs 0 0 Q (F0 m (pc + 3) ls (.int q :: rest))) : W p l e R s m args below meth c H locs 0 0 Q (F0 m pc ls (.int v1 :: .int v0 :: rest)) :=
  x_SI Z hP hS (kX10_wellOf l g v0 v1 mc mm q hq) mf_X10_wellOf wd_14_21 hlk rfl rfl hsz hro hR hdg kk

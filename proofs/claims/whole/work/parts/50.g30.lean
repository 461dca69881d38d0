theorem dX10_stoodOf_0 : decode cX10_stoodOf 0 = .ok (.aload_n 0, 1) := by decide +kernel
theorem dX10_stoodOf_1 : decode cX10_stoodOf 1 = .ok (.getfield 28, 3) := by decide +kernel
theorem dX10_stoodOf_4 : decode cX10_stoodOf 4 = .ok (.iconst 2, 1) := by decide +kernel
theorem dX10_stoodOf_5 : decode cX10_stoodOf 5 = .ok (.iload_n 1, 1) := by decide +kernel
theorem dX10_stoodOf_6 : decode cX10_stoodOf 6 = .ok (.imul, 1) := by decide +kernel
theorem dX10_stoodOf_7 : decode cX10_stoodOf 7 = .ok (.iconst 1, 1) := by decide +kernel
theorem dX10_stoodOf_8 : decode cX10_stoodOf 8 = .ok (.iadd, 1) := by decide +kernel
theorem dX10_stoodOf_9 : decode cX10_stoodOf 9 = .ok (.iaload, 1) := by decide +kernel
theorem dX10_stoodOf_10 : decode cX10_stoodOf 10 = .ok (.istore_n 2, 1) := by decide +kernel
theorem dX10_stoodOf_11 : decode cX10_stoodOf 11 = .ok (.iconst 0, 1) := by decide +kernel
theorem dX10_stoodOf_12 : decode cX10_stoodOf 12 = .ok (.istore_n 3, 1) := by decide +kernel
theorem dX10_stoodOf_13 : decode cX10_stoodOf 13 = .ok (.iconst 0, 1) := by decide +kernel
theorem dX10_stoodOf_14 : decode cX10_stoodOf 14 = .ok (.istore 4, 2) := by decide +kernel
theorem dX10_stoodOf_16 : decode cX10_stoodOf 16 = .ok (.iload 4, 2) := by decide +kernel
theorem dX10_stoodOf_18 : decode cX10_stoodOf 18 = .ok (.bipush 10, 2) := by decide +kernel
theorem dX10_stoodOf_20 : decode cX10_stoodOf 20 = .ok (.if_icmp .ge 118, 3) := by decide +kernel
theorem dX10_stoodOf_23 : decode cX10_stoodOf 23 = .ok (.aload_n 0, 1) := by decide +kernel
theorem dX10_stoodOf_24 : decode cX10_stoodOf 24 = .ok (.getfield 28, 3) := by decide +kernel
theorem dX10_stoodOf_27 : decode cX10_stoodOf 27 = .ok (.iconst 2, 1) := by decide +kernel
theorem dX10_stoodOf_28 : decode cX10_stoodOf 28 = .ok (.iload_n 1, 1) := by decide +kernel
theorem dX10_stoodOf_29 : decode cX10_stoodOf 29 = .ok (.imul, 1) := by decide +kernel
theorem dX10_stoodOf_30 : decode cX10_stoodOf 30 = .ok (.iconst 1, 1) := by decide +kernel
theorem dX10_stoodOf_31 : decode cX10_stoodOf 31 = .ok (.iadd, 1) := by decide +kernel
theorem dX10_stoodOf_32 : decode cX10_stoodOf 32 = .ok (.iload 4, 2) := by decide +kernel
theorem dX10_stoodOf_34 : decode cX10_stoodOf 34 = .ok (.iastore, 1) := by decide +kernel
theorem dX10_stoodOf_35 : decode cX10_stoodOf 35 = .ok (.iload_n 3, 1) := by decide +kernel
theorem dX10_stoodOf_36 : decode cX10_stoodOf 36 = .ok (.aload_n 0, 1) := by decide +kernel
theorem dX10_stoodOf_37 : decode cX10_stoodOf 37 = .ok (.invokevirtual 291, 3) := by decide +kernel
theorem dX10_stoodOf_40 : decode cX10_stoodOf 40 = .ok (.ifCond .eq 10, 3) := by decide +kernel
theorem dX10_stoodOf_43 : decode cX10_stoodOf 43 = .ok (.iconst 1, 1) := by decide +kernel
theorem dX10_stoodOf_44 : decode cX10_stoodOf 44 = .ok (.iload 4, 2) := by decide +kernel
theorem dX10_stoodOf_46 : decode cX10_stoodOf 46 = .ok (.ishl, 1) := by decide +kernel
theorem dX10_stoodOf_47 : decode cX10_stoodOf 47 = .ok (.goto 4, 3) := by decide +kernel
theorem dX10_stoodOf_50 : decode cX10_stoodOf 50 = .ok (.iconst 0, 1) := by decide +kernel
theorem dX10_stoodOf_51 : decode cX10_stoodOf 51 = .ok (.ior, 1) := by decide +kernel
theorem dX10_stoodOf_52 : decode cX10_stoodOf 52 = .ok (.istore_n 3, 1) := by decide +kernel
theorem dX10_stoodOf_53 : decode cX10_stoodOf 53 = .ok (.iconst 0, 1) := by decide +kernel
theorem dX10_stoodOf_54 : decode cX10_stoodOf 54 = .ok (.istore 5, 2) := by decide +kernel
theorem dX10_stoodOf_56 : decode cX10_stoodOf 56 = .ok (.iload 5, 2) := by decide +kernel
theorem dX10_stoodOf_58 : decode cX10_stoodOf 58 = .ok (.bipush 40, 2) := by decide +kernel
theorem dX10_stoodOf_60 : decode cX10_stoodOf 60 = .ok (.if_icmp .ge 72, 3) := by decide +kernel
theorem dX10_stoodOf_63 : decode cX10_stoodOf 63 = .ok (.iconst 0, 1) := by decide +kernel
theorem dX10_stoodOf_64 : decode cX10_stoodOf 64 = .ok (.istore 6, 2) := by decide +kernel
theorem dX10_stoodOf_66 : decode cX10_stoodOf 66 = .ok (.iconst 0, 1) := by decide +kernel
theorem dX10_stoodOf_67 : decode cX10_stoodOf 67 = .ok (.istore 7, 2) := by decide +kernel
theorem dX10_stoodOf_69 : decode cX10_stoodOf 69 = .ok (.iload 7, 2) := by decide +kernel
theorem dX10_stoodOf_71 : decode cX10_stoodOf 71 = .ok (.aload_n 0, 1) := by decide +kernel
theorem dX10_stoodOf_72 : decode cX10_stoodOf 72 = .ok (.getfield 134, 3) := by decide +kernel
theorem dX10_stoodOf_75 : decode cX10_stoodOf 75 = .ok (.if_icmp .ge 36, 3) := by decide +kernel
theorem dX10_stoodOf_78 : decode cX10_stoodOf 78 = .ok (.iload 6, 2) := by decide +kernel
theorem dX10_stoodOf_80 : decode cX10_stoodOf 80 = .ok (.aload_n 0, 1) := by decide +kernel
theorem dX10_stoodOf_81 : decode cX10_stoodOf 81 = .ok (.getfield 56, 3) := by decide +kernel
theorem dX10_stoodOf_84 : decode cX10_stoodOf 84 = .ok (.bipush 8, 2) := by decide +kernel
theorem dX10_stoodOf_86 : decode cX10_stoodOf 86 = .ok (.iload 5, 2) := by decide +kernel
theorem dX10_stoodOf_88 : decode cX10_stoodOf 88 = .ok (.imul, 1) := by decide +kernel
theorem dX10_stoodOf_89 : decode cX10_stoodOf 89 = .ok (.iload 7, 2) := by decide +kernel
theorem dX10_stoodOf_91 : decode cX10_stoodOf 91 = .ok (.iadd, 1) := by decide +kernel
theorem dX10_stoodOf_92 : decode cX10_stoodOf 92 = .ok (.iaload, 1) := by decide +kernel
theorem dX10_stoodOf_93 : decode cX10_stoodOf 93 = .ok (.iload_n 1, 1) := by decide +kernel
theorem dX10_stoodOf_94 : decode cX10_stoodOf 94 = .ok (.if_icmp .ne 7, 3) := by decide +kernel
theorem dX10_stoodOf_97 : decode cX10_stoodOf 97 = .ok (.iconst 1, 1) := by decide +kernel
theorem dX10_stoodOf_98 : decode cX10_stoodOf 98 = .ok (.goto 4, 3) := by decide +kernel
theorem dX10_stoodOf_101 : decode cX10_stoodOf 101 = .ok (.iconst 0, 1) := by decide +kernel
theorem dX10_stoodOf_102 : decode cX10_stoodOf 102 = .ok (.iadd, 1) := by decide +kernel
theorem dX10_stoodOf_103 : decode cX10_stoodOf 103 = .ok (.istore 6, 2) := by decide +kernel
theorem dX10_stoodOf_105 : decode cX10_stoodOf 105 = .ok (.iinc 7 1, 3) := by decide +kernel
theorem dX10_stoodOf_108 : decode cX10_stoodOf 108 = .ok (.goto (-39), 3) := by decide +kernel
theorem dX10_stoodOf_111 : decode cX10_stoodOf 111 = .ok (.aload_n 0, 1) := by decide +kernel
theorem dX10_stoodOf_112 : decode cX10_stoodOf 112 = .ok (.getfield 71, 3) := by decide +kernel
theorem dX10_stoodOf_115 : decode cX10_stoodOf 115 = .ok (.bipush 40, 2) := by decide +kernel
theorem dX10_stoodOf_117 : decode cX10_stoodOf 117 = .ok (.iload 4, 2) := by decide +kernel
theorem dX10_stoodOf_119 : decode cX10_stoodOf 119 = .ok (.imul, 1) := by decide +kernel
theorem dX10_stoodOf_120 : decode cX10_stoodOf 120 = .ok (.iload 5, 2) := by decide +kernel
theorem dX10_stoodOf_122 : decode cX10_stoodOf 122 = .ok (.iadd, 1) := by decide +kernel
theorem dX10_stoodOf_123 : decode cX10_stoodOf 123 = .ok (.iload 6, 2) := by decide +kernel
theorem dX10_stoodOf_125 : decode cX10_stoodOf 125 = .ok (.iastore, 1) := by decide +kernel
theorem dX10_stoodOf_126 : decode cX10_stoodOf 126 = .ok (.iinc 5 1, 3) := by decide +kernel
theorem dX10_stoodOf_129 : decode cX10_stoodOf 129 = .ok (.goto (-73), 3) := by decide +kernel
theorem dX10_stoodOf_132 : decode cX10_stoodOf 132 = .ok (.iinc 4 1, 3) := by decide +kernel
theorem dX10_stoodOf_135 : decode cX10_stoodOf 135 = .ok (.goto (-119), 3) := by decide +kernel
theorem dX10_stoodOf_138 : decode cX10_stoodOf 138 = .ok (.aload_n 0, 1) := by decide +kernel
theorem dX10_stoodOf_139 : decode cX10_stoodOf 139 = .ok (.getfield 28, 3) := by decide +kernel
theorem dX10_stoodOf_142 : decode cX10_stoodOf 142 = .ok (.iconst 2, 1) := by decide +kernel
theorem dX10_stoodOf_143 : decode cX10_stoodOf 143 = .ok (.iload_n 1, 1) := by decide +kernel
theorem dX10_stoodOf_144 : decode cX10_stoodOf 144 = .ok (.imul, 1) := by decide +kernel
theorem dX10_stoodOf_145 : decode cX10_stoodOf 145 = .ok (.iconst 1, 1) := by decide +kernel
theorem dX10_stoodOf_146 : decode cX10_stoodOf 146 = .ok (.iadd, 1) := by decide +kernel
theorem dX10_stoodOf_147 : decode cX10_stoodOf 147 = .ok (.iload_n 2, 1) := by decide +kernel
theorem dX10_stoodOf_148 : decode cX10_stoodOf 148 = .ok (.iastore, 1) := by decide +kernel
theorem dX10_stoodOf_149 : decode cX10_stoodOf 149 = .ok (.iload_n 3, 1) := by decide +kernel
theorem dX10_stoodOf_150 : decode cX10_stoodOf 150 = .ok (.ireturn, 1) := by decide +kernel
noncomputable def F10_stoodOf_b138 (v1 : Int32) (a2 : Int32) (a3 : Int32) (M : Mem) : Option (Int32 × Mem) :=
  (ck (((2 : Int32) * v1) + (1 : Int32)) 16 (some (a3, (mset M 7 (((2 : Int32) * v1) + (1 : Int32)).toNatClampNeg a2))))
noncomputable def F10_stoodOf_b132 (kh : Int32 → Int32 → Int32 → Mem → Option (Int32 × Mem)) (kx138 : Int32 → Int32 → Mem → Option (Int32 × Mem)) (v1 : Int32) (a2 : Int32) (a3 : Int32) (a4 : Int32) (M : Mem) : Option (Int32 × Mem) :=
  kh a2 a3 (a4 + (1 : Int32)) M
noncomputable def F10_stoodOf_b111 (kh : Int32 → Int32 → Int32 → Int32 → Mem → Option (Int32 × Mem)) (kx132 : Int32 → Int32 → Int32 → Mem → Option (Int32 × Mem)) (v1 : Int32) (a2 : Int32) (a3 : Int32) (a4 : Int32) (a5 : Int32) (a6 : Int32) (M : Mem) : Option (Int32 × Mem) :=
  (ck (((40 : Int32) * a4) + a5) 400 (kh a2 a3 a4 (a5 + (1 : Int32)) (mset M 21 (((40 : Int32) * a4) + a5).toNatClampNeg a6)))
noncomputable def F10_stoodOf_b102 (kh : Int32 → Int32 → Int32 → Int32 → Int32 → Int32 → Mem → Option (Int32 × Mem)) (kx111 : Int32 → Int32 → Int32 → Int32 → Int32 → Mem → Option (Int32 × Mem)) (v1 : Int32) (a2 : Int32) (a3 : Int32) (a4 : Int32) (a5 : Int32) (a7 : Int32) (s0 : Int32) (s1 : Int32) (M : Mem) : Option (Int32 × Mem) :=
  kh a2 a3 a4 a5 (s0 + s1) (a7 + (1 : Int32)) M
noncomputable def F10_stoodOf_p69 (kh : Int32 → Int32 → Int32 → Int32 → Int32 → Int32 → Mem → Option (Int32 × Mem)) (kx111 : Int32 → Int32 → Int32 → Int32 → Int32 → Mem → Option (Int32 × Mem)) (v1 : Int32) (a2 : Int32) (a3 : Int32) (a4 : Int32) (a5 : Int32) (a6 : Int32) (a7 : Int32) (M : Mem) : Option (Int32 × Mem) :=
  (if (M 0 9) ≤ a7 then kx111 a2 a3 a4 a5 a6 M else (ck (((8 : Int32) * a5) + a7) 320 (if (M 16 (((8 : Int32) * a5) + a7).toNatClampNeg) = v1 then (F10_stoodOf_b102 kh kx111 v1) a2 a3 a4 a5 a7 a6 (1 : Int32) M else (F10_stoodOf_b102 kh kx111 v1) a2 a3 a4 a5 a7 a6 (0 : Int32) M)))
noncomputable def F10_stoodOf_h69 (kx111 : Int32 → Int32 → Int32 → Int32 → Int32 → Mem → Option (Int32 × Mem)) (v1 : Int32) : Nat → Int32 → Int32 → Int32 → Int32 → Int32 → Int32 → Mem → Option (Int32 × Mem)
  | 0, _, _, _, _, _, _, _ => none
  | n + 1, a2, a3, a4, a5, a6, a7, M => F10_stoodOf_p69 (F10_stoodOf_h69 kx111 v1 n) kx111 v1 a2 a3 a4 a5 a6 a7 M
noncomputable def F10_stoodOf_p56 (kh : Int32 → Int32 → Int32 → Int32 → Mem → Option (Int32 × Mem)) (kx132 : Int32 → Int32 → Int32 → Mem → Option (Int32 × Mem)) (v1 : Int32) (a2 : Int32) (a3 : Int32) (a4 : Int32) (a5 : Int32) (M : Mem) : Option (Int32 × Mem) :=
  (if (40 : Int32) ≤ a5 then kx132 a2 a3 a4 M else (F10_stoodOf_h69 (F10_stoodOf_b111 kh kx132 v1) v1 FU) a2 a3 a4 a5 (0 : Int32) (0 : Int32) M)
noncomputable def F10_stoodOf_h56 (kx132 : Int32 → Int32 → Int32 → Mem → Option (Int32 × Mem)) (v1 : Int32) : Nat → Int32 → Int32 → Int32 → Int32 → Mem → Option (Int32 × Mem)
  | 0, _, _, _, _, _ => none
  | n + 1, a2, a3, a4, a5, M => F10_stoodOf_p56 (F10_stoodOf_h56 kx132 v1 n) kx132 v1 a2 a3 a4 a5 M
noncomputable def F10_stoodOf_b51 (kh : Int32 → Int32 → Int32 → Mem → Option (Int32 × Mem)) (kx138 : Int32 → Int32 → Mem → Option (Int32 × Mem)) (v1 : Int32) (a2 : Int32) (a4 : Int32) (s0 : Int32) (s1 : Int32) (M : Mem) : Option (Int32 × Mem) :=
  (F10_stoodOf_h56 (F10_stoodOf_b132 kh kx138 v1) v1 FU) a2 (s0 ||| s1) a4 (0 : Int32) M
noncomputable def F10_stoodOf_p16 (kh : Int32 → Int32 → Int32 → Mem → Option (Int32 × Mem)) (kx138 : Int32 → Int32 → Mem → Option (Int32 × Mem)) (v1 : Int32) (a2 : Int32) (a3 : Int32) (a4 : Int32) (M : Mem) : Option (Int32 × Mem) :=
  (if (10 : Int32) ≤ a4 then kx138 a2 a3 M else (ck (((2 : Int32) * v1) + (1 : Int32)) 16 (lt (mset M 7 (((2 : Int32) * v1) + (1 : Int32)).toNatClampNeg a4) (fun M12 => ((F10_isDrawn M12).bind (fun q13 => (if q13.1 = (0 : Int32) then (F10_stoodOf_b51 kh kx138 v1) a2 a4 a3 (0 : Int32) q13.2 else (F10_stoodOf_b51 kh kx138 v1) a2 a4 a3 ((1 : Int32) <<< (a4 &&& (31 : Int32))) q13.2)))))))
noncomputable def F10_stoodOf_h16 (kx138 : Int32 → Int32 → Mem → Option (Int32 × Mem)) (v1 : Int32) : Nat → Int32 → Int32 → Int32 → Mem → Option (Int32 × Mem)
  | 0, _, _, _, _ => none
  | n + 1, a2, a3, a4, M => F10_stoodOf_p16 (F10_stoodOf_h16 kx138 v1 n) kx138 v1 a2 a3 a4 M
noncomputable def F10_stoodOf (v1 : Int32) (mm : Mem) : Option (Int32 × Mem) :=
  (ck (((2 : Int32) * v1) + (1 : Int32)) 16 ((F10_stoodOf_h16 (F10_stoodOf_b138 v1) v1 FU) (mm 7 (((2 : Int32) * v1) + (1 : Int32)).toNatClampNeg) (0 : Int32) (0 : Int32) mm))
set_option maxHeartbeats 4000000 in
set_option maxRecDepth 100000 in
theorem kX10_stoodOf (l : Launch) (g : GG) (v1 : Int32) (mc mm : Mem) (q : Int32 × Mem) (hF : F10_stoodOf v1 mm = some q) : KI l yX10_stoodOf cX10_stoodOf 8 .int 7 162 g [.ref (g.1 108), .int v1] mc mm q.1 (mc, q.2) := by
  intro sz
  refine x_start (Qc := fun z => QI g z q.1 (mc, q.2)) (by decide +kernel) (Nat.le_of_ble_eq_true rfl) ?_ sz
  intro p e s m args below meth c ls Z hr hlk hP hl
  have hx := Z.1.1
  have hb := Z.1.2.1
  have hown := Z.1.2.2.2.1
  have hts := Z.1.2.2.2.2
  have hS : va_S (AA g s.heap.size) s.heap s.heap [] := va_S.rf
  have hl : lv_has ls 8 [(0, .ref (g.1 108)), (1, .int v1)] := hl
  unfold F10_stoodOf at hF
  have hb138 : ∀ (a2 : Int32) (a3 : Int32) (M : Mem), F10_stoodOf_b138 v1 a2 a3 M = some q → ∀ (H : Heap) (locs : List Loc) (ls : Array Slot), lv_has ls 8 [(0, .ref (g.1 108)), (1, .int v1), (2, .int a2), (3, .int a3)] → va_P g.2.2.1 vwCl (wL g mc M) H → va_S (AA g s.heap.size) s.heap H locs → W p l e { frames := 7, cells := 0, slots := 0, locals := 162 } s m args below meth c H locs 0 0 (MQ below (QI g s.heap.size q.1 (mc, q.2)) args s 0 0 (AA g s.heap.size)) (F0 m 138 ls []) := by
    intro a2 a3 M hF H locs ls hl hP hS
    unfold F10_stoodOf_b138 at hF
    refine lv_aload_n hx hb dX10_stoodOf_138 rfl (lv_at hl 0 rfl) ?_
    refine gf10_8 Z hP wd_6_10 dX10_stoodOf_139 ?_
    refine lv_iconst (v := (2 : Int32)) hx hb dX10_stoodOf_142 ic_2 ?_
    refine lv_iload_n hx hb dX10_stoodOf_143 rfl (lv_at hl 1 rfl) ?_
    refine lv_imul hx hb dX10_stoodOf_144 ?_
    refine lv_iconst (v := (1 : Int32)) hx hb dX10_stoodOf_145 ic_1 ?_
    refine lv_iadd hx hb dX10_stoodOf_146 ?_
    refine lv_iload_n hx hb dX10_stoodOf_147 rfl (lv_at hl 2 rfl) ?_
    obtain ⟨hi8, hF⟩ := ck_ok hF
    refine rM_st Z hP hS 16 7 (by decide +kernel) hi8 dX10_stoodOf_148 (fun H locs hP hS => ?_)
    refine lv_iload_n hx hb dX10_stoodOf_149 rfl (lv_at hl 3 rfl) ?_
    exact ret_IWM Z hr hlk hP hS hF dX10_stoodOf_150
  have hL16 : ∀ (kx138 : Int32 → Int32 → Mem → Option (Int32 × Mem)), (∀ (a2 : Int32) (a3 : Int32) (M : Mem), kx138 a2 a3 M = some q → ∀ (H : Heap) (locs : List Loc) (ls : Array Slot), lv_has ls 8 [(0, .ref (g.1 108)), (1, .int v1), (2, .int a2), (3, .int a3)] → va_P g.2.2.1 vwCl (wL g mc M) H → va_S (AA g s.heap.size) s.heap H locs → W p l e { frames := 7, cells := 0, slots := 0, locals := 162 } s m args below meth c H locs 0 0 (MQ below (QI g s.heap.size q.1 (mc, q.2)) args s 0 0 (AA g s.heap.size)) (F0 m 138 ls [])) → ∀ n : Nat, ∀ (a2 : Int32) (a3 : Int32) (a4 : Int32) (M : Mem), F10_stoodOf_h16 kx138 v1 n a2 a3 a4 M = some q → ∀ (H : Heap) (locs : List Loc) (ls : Array Slot), lv_has ls 8 [(0, .ref (g.1 108)), (1, .int v1), (2, .int a2), (3, .int a3), (4, .int a4)] → va_P g.2.2.1 vwCl (wL g mc M) H → va_S (AA g s.heap.size) s.heap H locs → W p l e { frames := 7, cells := 0, slots := 0, locals := 162 } s m args below meth c H locs 0 0 (MQ below (QI g s.heap.size q.1 (mc, q.2)) args s 0 0 (AA g s.heap.size)) (F0 m 16 ls []) := by
    intro kx138 hx138 n
    induction n with
    | zero => intro a2 a3 a4 M hF H locs ls hl hP hS; exact absurd hF (fun z => nomatch (show (none : Option _) = some q from z))
    | succ n ih =>
      generalize hkh : F10_stoodOf_h16 kx138 v1 n = kh at ih
      have hb132 : ∀ (a2 : Int32) (a3 : Int32) (a4 : Int32) (M : Mem), F10_stoodOf_b132 kh kx138 v1 a2 a3 a4 M = some q → ∀ (H : Heap) (locs : List Loc) (ls : Array Slot), lv_has ls 8 [(0, .ref (g.1 108)), (1, .int v1), (2, .int a2), (3, .int a3), (4, .int a4)] → va_P g.2.2.1 vwCl (wL g mc M) H → va_S (AA g s.heap.size) s.heap H locs → W p l e { frames := 7, cells := 0, slots := 0, locals := 162 } s m args below meth c H locs 0 0 (MQ below (QI g s.heap.size q.1 (mc, q.2)) args s 0 0 (AA g s.heap.size)) (F0 m 132 ls []) := by
        intro a2 a3 a4 M hF H locs ls hl hP hS
        unfold F10_stoodOf_b132 at hF
        refine lv_iinc (lv' := [(4, .int (a4 + (1 : Int32))), (0, .ref (g.1 108)), (1, .int v1), (2, .int a2), (3, .int a3)]) (v := (a4 + (1 : Int32))) hx hb dX10_stoodOf_132 hl (k := 4) rfl (io_1 _) (Nat.le_of_ble_eq_true rfl) rfl (fun ls hl => ?_)
        refine lv_goto (tgt := 16) hx hb dX10_stoodOf_135 rfl ?_
        exact ih _ _ _ _ hF _ _ _ (lv_sub hl [1, 2, 3, 4, 0] rfl) hP hS
      have hL56 : ∀ (kx132 : Int32 → Int32 → Int32 → Mem → Option (Int32 × Mem)), (∀ (a2 : Int32) (a3 : Int32) (a4 : Int32) (M : Mem), kx132 a2 a3 a4 M = some q → ∀ (H : Heap) (locs : List Loc) (ls : Array Slot), lv_has ls 8 [(0, .ref (g.1 108)), (1, .int v1), (2, .int a2), (3, .int a3), (4, .int a4)] → va_P g.2.2.1 vwCl (wL g mc M) H → va_S (AA g s.heap.size) s.heap H locs → W p l e { frames := 7, cells := 0, slots := 0, locals := 162 } s m args below meth c H locs 0 0 (MQ below (QI g s.heap.size q.1 (mc, q.2)) args s 0 0 (AA g s.heap.size)) (F0 m 132 ls [])) → ∀ n : Nat, ∀ (a2 : Int32) (a3 : Int32) (a4 : Int32) (a5 : Int32) (M : Mem), F10_stoodOf_h56 kx132 v1 n a2 a3 a4 a5 M = some q → ∀ (H : Heap) (locs : List Loc) (ls : Array Slot), lv_has ls 8 [(0, .ref (g.1 108)), (1, .int v1), (2, .int a2), (3, .int a3), (4, .int a4), (5, .int a5)] → va_P g.2.2.1 vwCl (wL g mc M) H → va_S (AA g s.heap.size) s.heap H locs → W p l e { frames := 7, cells := 0, slots := 0, locals := 162 } s m args below meth c H locs 0 0 (MQ below (QI g s.heap.size q.1 (mc, q.2)) args s 0 0 (AA g s.heap.size)) (F0 m 56 ls []) := by
        intro kx132 hx132 n
        induction n with
        | zero => intro a2 a3 a4 a5 M hF H locs ls hl hP hS; exact absurd hF (fun z => nomatch (show (none : Option _) = some q from z))
        | succ n ih =>
          generalize hkh : F10_stoodOf_h56 kx132 v1 n = kh at ih
          have hb111 : ∀ (a2 : Int32) (a3 : Int32) (a4 : Int32) (a5 : Int32) (a6 : Int32) (M : Mem), F10_stoodOf_b111 kh kx132 v1 a2 a3 a4 a5 a6 M = some q → ∀ (H : Heap) (locs : List Loc) (ls : Array Slot), lv_has ls 8 [(0, .ref (g.1 108)), (1, .int v1), (2, .int a2), (3, .int a3), (4, .int a4), (5, .int a5), (6, .int a6)] → va_P g.2.2.1 vwCl (wL g mc M) H → va_S (AA g s.heap.size) s.heap H locs → W p l e { frames := 7, cells := 0, slots := 0, locals := 162 } s m args below meth c H locs 0 0 (MQ below (QI g s.heap.size q.1 (mc, q.2)) args s 0 0 (AA g s.heap.size)) (F0 m 111 ls []) := by
            intro a2 a3 a4 a5 a6 M hF H locs ls hl hP hS
            unfold F10_stoodOf_b111 at hF
            refine lv_aload_n hx hb dX10_stoodOf_111 rfl (lv_at hl 0 rfl) ?_
            refine gf10_28 Z hP wd_7_0 dX10_stoodOf_112 ?_
            refine lv_bipush (v := (40 : Int32)) hx hb dX10_stoodOf_115 bp_40 ?_
            refine lv_iload hx hb dX10_stoodOf_117 (lv_at hl 4 rfl) ?_
            refine lv_imul hx hb dX10_stoodOf_119 ?_
            refine lv_iload hx hb dX10_stoodOf_120 (lv_at hl 5 rfl) ?_
            refine lv_iadd hx hb dX10_stoodOf_122 ?_
            refine lv_iload hx hb dX10_stoodOf_123 (lv_at hl 6 rfl) ?_
            obtain ⟨hi9, hF⟩ := ck_ok hF
            refine rM_st Z hP hS 400 21 (by decide +kernel) hi9 dX10_stoodOf_125 (fun H locs hP hS => ?_)
            refine lv_iinc (lv' := [(5, .int (a5 + (1 : Int32))), (0, .ref (g.1 108)), (1, .int v1), (2, .int a2), (3, .int a3), (4, .int a4), (6, .int a6)]) (v := (a5 + (1 : Int32))) hx hb dX10_stoodOf_126 hl (k := 5) rfl (io_1 _) (Nat.le_of_ble_eq_true rfl) rfl (fun ls hl => ?_)
            refine lv_goto (tgt := 56) hx hb dX10_stoodOf_129 rfl ?_
            exact ih _ _ _ _ _ hF _ _ _ (lv_sub hl [1, 2, 3, 4, 5, 0] rfl) hP hS
          have hL69 : ∀ (kx111 : Int32 → Int32 → Int32 → Int32 → Int32 → Mem → Option (Int32 × Mem)), (∀ (a2 : Int32) (a3 : Int32) (a4 : Int32) (a5 : Int32) (a6 : Int32) (M : Mem), kx111 a2 a3 a4 a5 a6 M = some q → ∀ (H : Heap) (locs : List Loc) (ls : Array Slot), lv_has ls 8 [(0, .ref (g.1 108)), (1, .int v1), (2, .int a2), (3, .int a3), (4, .int a4), (5, .int a5), (6, .int a6)] → va_P g.2.2.1 vwCl (wL g mc M) H → va_S (AA g s.heap.size) s.heap H locs → W p l e { frames := 7, cells := 0, slots := 0, locals := 162 } s m args below meth c H locs 0 0 (MQ below (QI g s.heap.size q.1 (mc, q.2)) args s 0 0 (AA g s.heap.size)) (F0 m 111 ls [])) → ∀ n : Nat, ∀ (a2 : Int32) (a3 : Int32) (a4 : Int32) (a5 : Int32) (a6 : Int32) (a7 : Int32) (M : Mem), F10_stoodOf_h69 kx111 v1 n a2 a3 a4 a5 a6 a7 M = some q → ∀ (H : Heap) (locs : List Loc) (ls : Array Slot), lv_has ls 8 [(0, .ref (g.1 108)), (1, .int v1), (2, .int a2), (3, .int a3), (4, .int a4), (5, .int a5), (6, .int a6), (7, .int a7)] → va_P g.2.2.1 vwCl (wL g mc M) H → va_S (AA g s.heap.size) s.heap H locs → W p l e { frames := 7, cells := 0, slots := 0, locals := 162 } s m args below meth c H locs 0 0 (MQ below (QI g s.heap.size q.1 (mc, q.2)) args s 0 0 (AA g s.heap.size)) (F0 m 69 ls []) := by
            intro kx111 hx111 n
            induction n with
            | zero => intro a2 a3 a4 a5 a6 a7 M hF H locs ls hl hP hS; exact absurd hF (fun z => nomatch (show (none : Option _) = some q from z))
            | succ n ih =>
              generalize hkh : F10_stoodOf_h69 kx111 v1 n = kh at ih
              have hb102 : ∀ (a2 : Int32) (a3 : Int32) (a4 : Int32) (a5 : Int32) (a7 : Int32) (s0 : Int32) (s1 : Int32) (M : Mem), F10_stoodOf_b102 kh kx111 v1 a2 a3 a4 a5 a7 s0 s1 M = some q → ∀ (H : Heap) (locs : List Loc) (ls : Array Slot), lv_has ls 8 [(0, .ref (g.1 108)), (1, .int v1), (2, .int a2), (3, .int a3), (4, .int a4), (5, .int a5), (7, .int a7)] → va_P g.2.2.1 vwCl (wL g mc M) H → va_S (AA g s.heap.size) s.heap H locs → W p l e { frames := 7, cells := 0, slots := 0, locals := 162 } s m args below meth c H locs 0 0 (MQ below (QI g s.heap.size q.1 (mc, q.2)) args s 0 0 (AA g s.heap.size)) (F0 m 102 ls [.int s1, .int s0]) := by
                intro a2 a3 a4 a5 a7 s0 s1 M hF H locs ls hl hP hS
                unfold F10_stoodOf_b102 at hF
                refine lv_iadd hx hb dX10_stoodOf_102 ?_
                refine lv_istore (lv' := [(6, .int (s0 + s1)), (0, .ref (g.1 108)), (1, .int v1), (2, .int a2), (3, .int a3), (4, .int a4), (5, .int a5), (7, .int a7)]) hx hb dX10_stoodOf_103 hl (Nat.le_of_ble_eq_true rfl) rfl (fun ls hl => ?_)
                refine lv_iinc (lv' := [(7, .int (a7 + (1 : Int32))), (6, .int (s0 + s1)), (0, .ref (g.1 108)), (1, .int v1), (2, .int a2), (3, .int a3), (4, .int a4), (5, .int a5)]) (v := (a7 + (1 : Int32))) hx hb dX10_stoodOf_105 hl (k := 7) rfl (io_1 _) (Nat.le_of_ble_eq_true rfl) rfl (fun ls hl => ?_)
                refine lv_goto (tgt := 69) hx hb dX10_stoodOf_108 rfl ?_
                exact ih _ _ _ _ _ _ _ hF _ _ _ (lv_sub hl [2, 3, 4, 5, 6, 7, 1, 0] rfl) hP hS
              intro a2 a3 a4 a5 a6 a7 M hF H locs ls hl hP hS
              have hF : F10_stoodOf_p69 (F10_stoodOf_h69 kx111 v1 n) kx111 v1 a2 a3 a4 a5 a6 a7 M = some q := hF
              rw [hkh] at hF
              unfold F10_stoodOf_p69 at hF
              refine lv_iload hx hb dX10_stoodOf_69 (lv_at hl 7 rfl) ?_
              refine lv_aload_n hx hb dX10_stoodOf_71 rfl (lv_at hl 0 rfl) ?_
              refine gf10_9 Z hP wd_15_5 dX10_stoodOf_72 ?_
              refine lv_icmp_ge (tgt := 111) hx hb dX10_stoodOf_75 rfl (fun hc => ?_) (fun hc => ?_)
              · have hF := (if_pos hc).symm.trans hF
                exact hx111 _ _ _ _ _ _ hF _ _ _ (lv_sub hl [0, 1, 2, 3, 4, 5, 6] rfl) hP hS
              · have hF := (if_neg hc).symm.trans hF
                refine lv_iload hx hb dX10_stoodOf_78 (lv_at hl 6 rfl) ?_
                refine lv_aload_n hx hb dX10_stoodOf_80 rfl (lv_at hl 0 rfl) ?_
                refine gf10_22 Z hP wd_6_19 dX10_stoodOf_81 ?_
                refine lv_bipush (v := (8 : Int32)) hx hb dX10_stoodOf_84 bp_8 ?_
                refine lv_iload hx hb dX10_stoodOf_86 (lv_at hl 5 rfl) ?_
                refine lv_imul hx hb dX10_stoodOf_88 ?_
                refine lv_iload hx hb dX10_stoodOf_89 (lv_at hl 7 rfl) ?_
                refine lv_iadd hx hb dX10_stoodOf_91 ?_
                obtain ⟨hi10, hF⟩ := ck_ok hF
                refine rM_ld Z hP 320 16 (by decide +kernel) hi10 dX10_stoodOf_92 ?_
                refine lv_iload_n hx hb dX10_stoodOf_93 rfl (lv_at hl 1 rfl) ?_
                refine lv_icmp_ne (tgt := 101) hx hb dX10_stoodOf_94 rfl (fun hc => ?_) (fun hc => ?_)
                · have hF := (if_neg hc).symm.trans hF
                  refine lv_iconst (v := (0 : Int32)) hx hb dX10_stoodOf_101 ic_0 ?_
                  exact hb102 _ _ _ _ _ _ _ _ hF _ _ _ (lv_sub hl [0, 1, 2, 3, 4, 5, 7] rfl) hP hS
                · have hF := (if_pos hc).symm.trans hF
                  refine lv_iconst (v := (1 : Int32)) hx hb dX10_stoodOf_97 ic_1 ?_
                  refine lv_goto (tgt := 102) hx hb dX10_stoodOf_98 rfl ?_
                  exact hb102 _ _ _ _ _ _ _ _ hF _ _ _ (lv_sub hl [0, 1, 2, 3, 4, 5, 7] rfl) hP hS
          intro a2 a3 a4 a5 M hF H locs ls hl hP hS
          have hF : F10_stoodOf_p56 (F10_stoodOf_h56 kx132 v1 n) kx132 v1 a2 a3 a4 a5 M = some q := hF
          rw [hkh] at hF
          unfold F10_stoodOf_p56 at hF
          refine lv_iload hx hb dX10_stoodOf_56 (lv_at hl 5 rfl) ?_
          refine lv_bipush (v := (40 : Int32)) hx hb dX10_stoodOf_58 bp_40 ?_
          refine lv_icmp_ge (tgt := 132) hx hb dX10_stoodOf_60 rfl (fun hc => ?_) (fun hc => ?_)
          · have hF := (if_pos hc).symm.trans hF
            exact hx132 _ _ _ _ hF _ _ _ (lv_sub hl [0, 1, 2, 3, 4] rfl) hP hS
          · have hF := (if_neg hc).symm.trans hF
            refine lv_iconst (v := (0 : Int32)) hx hb dX10_stoodOf_63 ic_0 ?_
            refine lv_istore (lv' := [(6, .int (0 : Int32)), (0, .ref (g.1 108)), (1, .int v1), (2, .int a2), (3, .int a3), (4, .int a4), (5, .int a5)]) hx hb dX10_stoodOf_64 hl (Nat.le_of_ble_eq_true rfl) rfl (fun ls hl => ?_)
            refine lv_iconst (v := (0 : Int32)) hx hb dX10_stoodOf_66 ic_0 ?_
            refine lv_istore (lv' := [(7, .int (0 : Int32)), (6, .int (0 : Int32)), (0, .ref (g.1 108)), (1, .int v1), (2, .int a2), (3, .int a3), (4, .int a4), (5, .int a5)]) hx hb dX10_stoodOf_67 hl (Nat.le_of_ble_eq_true rfl) rfl (fun ls hl => ?_)
            exact (hL69 _ hb111 FU) _ _ _ _ _ _ _ hF _ _ _ (lv_sub hl [2, 3, 4, 5, 6, 7, 1, 0] rfl) hP hS
      have hb51 : ∀ (a2 : Int32) (a4 : Int32) (s0 : Int32) (s1 : Int32) (M : Mem), F10_stoodOf_b51 kh kx138 v1 a2 a4 s0 s1 M = some q → ∀ (H : Heap) (locs : List Loc) (ls : Array Slot), lv_has ls 8 [(0, .ref (g.1 108)), (1, .int v1), (2, .int a2), (4, .int a4)] → va_P g.2.2.1 vwCl (wL g mc M) H → va_S (AA g s.heap.size) s.heap H locs → W p l e { frames := 7, cells := 0, slots := 0, locals := 162 } s m args below meth c H locs 0 0 (MQ below (QI g s.heap.size q.1 (mc, q.2)) args s 0 0 (AA g s.heap.size)) (F0 m 51 ls [.int s1, .int s0]) := by
        intro a2 a4 s0 s1 M hF H locs ls hl hP hS
        unfold F10_stoodOf_b51 at hF
        refine lv_ior hx hb dX10_stoodOf_51 ?_
        refine lv_istore_n (lv' := [(3, .int (s0 ||| s1)), (0, .ref (g.1 108)), (1, .int v1), (2, .int a2), (4, .int a4)]) hx hb dX10_stoodOf_52 rfl hl (Nat.le_of_ble_eq_true rfl) rfl (fun ls hl => ?_)
        refine lv_iconst (v := (0 : Int32)) hx hb dX10_stoodOf_53 ic_0 ?_
        refine lv_istore (lv' := [(5, .int (0 : Int32)), (3, .int (s0 ||| s1)), (0, .ref (g.1 108)), (1, .int v1), (2, .int a2), (4, .int a4)]) hx hb dX10_stoodOf_54 hl (Nat.le_of_ble_eq_true rfl) rfl (fun ls hl => ?_)
        exact (hL56 _ hb132 FU) _ _ _ _ _ hF _ _ _ (lv_sub hl [2, 3, 4, 1, 5, 0] rfl) hP hS
      intro a2 a3 a4 M hF H locs ls hl hP hS
      have hF : F10_stoodOf_p16 (F10_stoodOf_h16 kx138 v1 n) kx138 v1 a2 a3 a4 M = some q := hF
      rw [hkh] at hF
      unfold F10_stoodOf_p16 at hF
      refine lv_iload hx hb dX10_stoodOf_16 (lv_at hl 4 rfl) ?_
      refine lv_bipush (v := (10 : Int32)) hx hb dX10_stoodOf_18 bp_10 ?_
      refine lv_icmp_ge (tgt := 138) hx hb dX10_stoodOf_20 rfl (fun hc => ?_) (fun hc => ?_)
      · have hF := (if_pos hc).symm.trans hF
        exact hx138 _ _ _ hF _ _ _ (lv_sub hl [0, 1, 2, 3] rfl) hP hS
      · have hF := (if_neg hc).symm.trans hF
        refine lv_aload_n hx hb dX10_stoodOf_23 rfl (lv_at hl 0 rfl) ?_
        refine gf10_8 Z hP wd_6_10 dX10_stoodOf_24 ?_
        refine lv_iconst (v := (2 : Int32)) hx hb dX10_stoodOf_27 ic_2 ?_
        refine lv_iload_n hx hb dX10_stoodOf_28 rfl (lv_at hl 1 rfl) ?_
        refine lv_imul hx hb dX10_stoodOf_29 ?_
        refine lv_iconst (v := (1 : Int32)) hx hb dX10_stoodOf_30 ic_1 ?_
        refine lv_iadd hx hb dX10_stoodOf_31 ?_
        refine lv_iload hx hb dX10_stoodOf_32 (lv_at hl 4 rfl) ?_
        obtain ⟨hi11, hF⟩ := ck_ok hF
        refine rM_st Z hP hS 16 7 (by decide +kernel) hi11 dX10_stoodOf_34 (fun H locs hP hS => ?_)
        refine lv_iload_n hx hb dX10_stoodOf_35 rfl (lv_at hl 3 rfl) ?_
        refine lv_aload_n hx hb dX10_stoodOf_36 rfl (lv_at hl 0 rfl) ?_
        obtain ⟨M12, eM12, hF⟩ := lt_ok hF
        have hP : va_P g.2.2.1 vwCl (wL g mc M12) H := by rw [eM12]; exact hP
        obtain ⟨q13, hq13, hF⟩ := bd_ok hF
        refine xX10_isDrawn Z hP hS hq13 wd_33_14 hl.1 (Nat.le_of_ble_eq_true rfl) ⟨Nat.le_of_ble_eq_true rfl, Nat.le_of_ble_eq_true rfl⟩ dX10_stoodOf_37 (fun H locs hP hS => ?_)
        refine lv_if_eq (tgt := 50) hx hb dX10_stoodOf_40 rfl (fun hc => ?_) (fun hc => ?_)
        · have hF := (if_pos hc).symm.trans hF
          refine lv_iconst (v := (0 : Int32)) hx hb dX10_stoodOf_50 ic_0 ?_
          exact hb51 _ _ _ _ _ hF _ _ _ (lv_sub hl [0, 1, 2, 4] rfl) hP hS
        · have hF := (if_neg hc).symm.trans hF
          refine lv_iconst (v := (1 : Int32)) hx hb dX10_stoodOf_43 ic_1 ?_
          refine lv_iload hx hb dX10_stoodOf_44 (lv_at hl 4 rfl) ?_
          refine lv_ishl hx hb dX10_stoodOf_46 ?_
          refine lv_goto (tgt := 51) hx hb dX10_stoodOf_47 rfl ?_
          exact hb51 _ _ _ _ _ hF _ _ _ (lv_sub hl [0, 1, 2, 4] rfl) hP hS
  refine lv_aload_n hx hb dX10_stoodOf_0 rfl (lv_at hl 0 rfl) ?_
  refine gf10_8 Z hP wd_6_10 dX10_stoodOf_1 ?_
  refine lv_iconst (v := (2 : Int32)) hx hb dX10_stoodOf_4 ic_2 ?_
  refine lv_iload_n hx hb dX10_stoodOf_5 rfl (lv_at hl 1 rfl) ?_
  refine lv_imul hx hb dX10_stoodOf_6 ?_
  refine lv_iconst (v := (1 : Int32)) hx hb dX10_stoodOf_7 ic_1 ?_
  refine lv_iadd hx hb dX10_stoodOf_8 ?_
  obtain ⟨hi14, hF⟩ := ck_ok hF
  refine rM_ld Z hP 16 7 (by decide +kernel) hi14 dX10_stoodOf_9 ?_
  refine lv_istore_n (lv' := [(2, .int (mm 7 (((2 : Int32) * v1) + (1 : Int32)).toNatClampNeg)), (0, .ref (g.1 108)), (1, .int v1)]) hx hb dX10_stoodOf_10 rfl hl (Nat.le_of_ble_eq_true rfl) rfl (fun ls hl => ?_)
  refine lv_iconst (v := (0 : Int32)) hx hb dX10_stoodOf_11 ic_0 ?_
  refine lv_istore_n (lv' := [(3, .int (0 : Int32)), (2, .int (mm 7 (((2 : Int32) * v1) + (1 : Int32)).toNatClampNeg)), (0, .ref (g.1 108)), (1, .int v1)]) hx hb dX10_stoodOf_12 rfl hl (Nat.le_of_ble_eq_true rfl) rfl (fun ls hl => ?_)
  refine lv_iconst (v := (0 : Int32)) hx hb dX10_stoodOf_13 ic_0 ?_
  refine lv_istore (lv' := [(4, .int (0 : Int32)), (3, .int (0 : Int32)), (2, .int (mm 7 (((2 : Int32) * v1) + (1 : Int32)).toNatClampNeg)), (0, .ref (g.1 108)), (1, .int v1)]) hx hb dX10_stoodOf_14 hl (Nat.le_of_ble_eq_true rfl) rfl (fun ls hl => ?_)
  exact (hL16 _ hb138 FU) _ _ _ _ hF _ _ _ (lv_sub hl [3, 4, 2, 1, 0] rfl) hP hS
theorem xX10_stoodOf {p : Program} {l : Launch} {e : Env} {R : Room} {s : State} {m : MethodId} {args : Array Value} {below : List Frame} {meth : Method} {c : Code} {H : Heap} {locs : List Loc} {Q : State → Prop} {cc : ByteArray} {nL : Nat} {own : String} {g : GG} {pc index : Nat} {ls : Array Slot} {rest : List Value} {mc mm : Mem} (Z : ZZ p s m args c cc nL own g) (hP : va_P g.2.2.1 vwCl (wL g mc mm) H) (hS : va_S (AA g s.heap.size) s.heap H locs) {v1 : Int32} {q : Int32 × Mem} (hq : F10_stoodOf v1 mm = some q) (hlk : Cond.methodLink own index yX10_stoodOf ∈ wsL_law) (hsz : ls.size = nL) (hro : (rest.map fun v => v.category).sum ≤ 8) (hR : 7 + 1 ≤ R.frames ∧ 8 + (8 + 11) + 162 ≤ R.locals) (hdg : decode cc pc = .ok (.invokevirtual index, 3)) (kk : ∀ (H : Heap) (locs : List Loc), va_P g.2.2.1 vwCl (wL g mc q.2) H → va_S (AA g s.heap.size) s.heap H locs → W p l e R s m args below meth c H locs 0 0 Q (F0 m (pc + 3) ls (.int q.1 :: rest))) : W p l e R s m args below meth c H locs 0 0 Q (F0 m pc ls (.int v1 :: .ref (g.1 108) :: rest)) :=
  x_VI Z hP hS (kX10_stoodOf l g v1 mc mm q hq) (mO) (ci := 10) (by decide) rfl rfl mf_X10_stoodOf mv_X10_stoodOf hlk rfl rfl hsz hro hR hdg kk
theorem dX10_stoneOf_0 : decode cX10_stoneOf 0 = .ok (.iload_n 2, 1) := by decide +kernel
theorem dX10_stoneOf_1 : decode cX10_stoneOf 1 = .ok (.ifCond .ne 11, 3) := by decide +kernel
theorem dX10_stoneOf_4 : decode cX10_stoneOf 4 = .ok (.aload_n 0, 1) := by decide +kernel
theorem dX10_stoneOf_5 : decode cX10_stoneOf 5 = .ok (.iload_n 1, 1) := by decide +kernel
theorem dX10_stoneOf_6 : decode cX10_stoneOf 6 = .ok (.invokevirtual 298, 3) := by decide +kernel
theorem dX10_stoneOf_9 : decode cX10_stoneOf 9 = .ok (.goto 8, 3) := by decide +kernel
theorem dX10_stoneOf_12 : decode cX10_stoneOf 12 = .ok (.aload_n 0, 1) := by decide +kernel
theorem dX10_stoneOf_13 : decode cX10_stoneOf 13 = .ok (.iload_n 1, 1) := by decide +kernel
theorem dX10_stoneOf_14 : decode cX10_stoneOf 14 = .ok (.invokevirtual 301, 3) := by decide +kernel
theorem dX10_stoneOf_17 : decode cX10_stoneOf 17 = .ok (.ireturn, 1) := by decide +kernel
noncomputable def F10_stoneOf (v1 : Int32) (v2 : Int32) (mm : Mem) : Option (Int32 × Mem) :=
  (if v2 = (0 : Int32) then ((F10_stonesOf v1 mm).bind (fun q4 => (some (q4.1, q4.2)))) else ((F10_stoodOf v1 mm).bind (fun q3 => (some (q3.1, q3.2)))))
set_option maxHeartbeats 4000000 in
set_option maxRecDepth 100000 in
theorem kX10_stoneOf (l : Launch) (g : GG) (v1 : Int32) (v2 : Int32) (mc mm : Mem) (q : Int32 × Mem) (hF : F10_stoneOf v1 v2 mm = some q) : KI l yX10_stoneOf cX10_stoneOf 3 .int 8 189 g [.ref (g.1 108), .int v1, .int v2] mc mm q.1 (mc, q.2) := by
  intro sz
  refine x_start (Qc := fun z => QI g z q.1 (mc, q.2)) (by decide +kernel) (Nat.le_of_ble_eq_true rfl) ?_ sz
  intro p e s m args below meth c ls Z hr hlk hP hl
  have hx := Z.1.1
  have hb := Z.1.2.1
  have hown := Z.1.2.2.2.1
  have hts := Z.1.2.2.2.2
  have hS : va_S (AA g s.heap.size) s.heap s.heap [] := va_S.rf
  have hl : lv_has ls 3 [(0, .ref (g.1 108)), (1, .int v1), (2, .int v2)] := hl
  unfold F10_stoneOf at hF
  refine lv_iload_n hx hb dX10_stoneOf_0 rfl (lv_at hl 2 rfl) ?_
  refine lv_if_ne (tgt := 12) hx hb dX10_stoneOf_1 rfl (fun hc => ?_) (fun hc => ?_)
  · have hF := (if_neg hc).symm.trans hF
    refine lv_aload_n hx hb dX10_stoneOf_12 rfl (lv_at hl 0 rfl) ?_
    refine lv_iload_n hx hb dX10_stoneOf_13 rfl (lv_at hl 1 rfl) ?_
    obtain ⟨q3, hq3, hF⟩ := bd_ok hF
    refine xX10_stoodOf Z hP hS hq3 wd_35_2 hl.1 (Nat.le_of_ble_eq_true rfl) ⟨Nat.le_of_ble_eq_true rfl, Nat.le_of_ble_eq_true rfl⟩ dX10_stoneOf_14 (fun H locs hP hS => ?_)
    exact ret_IWM Z hr hlk hP hS hF dX10_stoneOf_17
  · have hF := (if_pos hc).symm.trans hF
    refine lv_aload_n hx hb dX10_stoneOf_4 rfl (lv_at hl 0 rfl) ?_
    refine lv_iload_n hx hb dX10_stoneOf_5 rfl (lv_at hl 1 rfl) ?_
    obtain ⟨q4, hq4, hF⟩ := bd_ok hF
    refine xX10_stonesOf Z hP hS hq4 wd_34_22 hl.1 (Nat.le_of_ble_eq_true rfl) ⟨Nat.le_of_ble_eq_true rfl, Nat.le_of_ble_eq_true rfl⟩ dX10_stoneOf_6 (fun H locs hP hS => ?_)
    refine lv_goto (tgt := 17) hx hb dX10_stoneOf_9 rfl ?_
    exact ret_IWM Z hr hlk hP hS hF dX10_stoneOf_17
theorem xX10_stoneOf {p : Program} {l : Launch} {e : Env} {R : Room} {s : State} {m : MethodId} {args : Array Value} {below : List Frame} {meth : Method} {c : Code} {H : Heap} {locs : List Loc} {Q : State → Prop} {cc : ByteArray} {nL : Nat} {own : String} {g : GG} {pc index : Nat} {ls : Array Slot} {rest : List Value} {mc mm : Mem} (Z : ZZ p s m args c cc nL own g) (hP : va_P g.2.2.1 vwCl (wL g mc mm) H) (hS : va_S (AA g s.heap.size) s.heap H locs) {v1 : Int32} {v2 : Int32} {q : Int32 × Mem} (hq : F10_stoneOf v1 v2 mm = some q) (hlk : Cond.methodLink own index yX10_stoneOf ∈ wsL_law) (hsz : ls.size = nL) (hro : (rest.map fun v => v.category).sum ≤ 8) (hR : 8 + 1 ≤ R.frames ∧ 8 + (3 + 11) + 189 ≤ R.locals) (hdg : decode cc pc = .ok (.invokevirtual index, 3)) (kk : ∀ (H : Heap) (locs : List Loc), va_P g.2.2.1 vwCl (wL g mc q.2) H → va_S (AA g s.heap.size) s.heap H locs → W p l e R s m args below meth c H locs 0 0 Q (F0 m (pc + 3) ls (.int q.1 :: rest))) : W p l e R s m args below meth c H locs 0 0 Q (F0 m pc ls (.int v2 :: .int v1 :: .ref (g.1 108) :: rest)) :=
  x_VI Z hP hS (kX10_stoneOf l g v1 v2 mc mm q hq) (mO) (ci := 10) (by decide) rfl rfl mf_X10_stoneOf mv_X10_stoneOf hlk rfl rfl hsz hro hR hdg kk
theorem dX10_stone_0 : decode cX10_stone 0 = .ok (.aload_n 0, 1) := by decide +kernel
theorem dX10_stone_1 : decode cX10_stone 1 = .ok (.invokevirtual 236, 3) := by decide +kernel
theorem dX10_stone_4 : decode cX10_stone 4 = .ok (.aload_n 0, 1) := by decide +kernel
theorem dX10_stone_5 : decode cX10_stone 5 = .ok (.iload_n 1, 1) := by decide +kernel
theorem dX10_stone_6 : decode cX10_stone 6 = .ok (.invokevirtual 160, 3) := by decide +kernel
theorem dX10_stone_9 : decode cX10_stone 9 = .ok (.ifCond .eq 19, 3) := by decide +kernel
theorem dX10_stone_12 : decode cX10_stone 12 = .ok (.iload_n 2, 1) := by decide +kernel
theorem dX10_stone_13 : decode cX10_stone 13 = .ok (.invokestatic 111, 3) := by decide +kernel
theorem dX10_stone_16 : decode cX10_stone 16 = .ok (.ifCond .eq 12, 3) := by decide +kernel
theorem dX10_stone_19 : decode cX10_stone 19 = .ok (.aload_n 0, 1) := by decide +kernel
theorem dX10_stone_20 : decode cX10_stone 20 = .ok (.iload_n 1, 1) := by decide +kernel
theorem dX10_stone_21 : decode cX10_stone 21 = .ok (.iload_n 2, 1) := by decide +kernel
theorem dX10_stone_22 : decode cX10_stone 22 = .ok (.invokevirtual 304, 3) := by decide +kernel
theorem dX10_stone_25 : decode cX10_stone 25 = .ok (.goto 5, 3) := by decide +kernel
theorem dX10_stone_28 : decode cX10_stone 28 = .ok (.bipush (-2), 2) := by decide +kernel
theorem dX10_stone_30 : decode cX10_stone 30 = .ok (.ireturn, 1) := by decide +kernel
noncomputable def F10_stone_b28 (v1 : Int32) (v2 : Int32) (M : Mem) : Option (Int32 × Mem) :=
  some ((-2 : Int32), M)
noncomputable def F10_stone (v1 : Int32) (v2 : Int32) (mm : Mem) : Option (Int32 × Mem) :=
  ((F10_find mm).bind (fun q5 => ((F10_isWell v1 q5).bind (fun q6 => (if q6 = (0 : Int32) then (F10_stone_b28 v1 v2) q5 else ((F10_isTwo v2).bind (fun q7 => (if q7 = (0 : Int32) then (F10_stone_b28 v1 v2) q5 else ((F10_stoneOf v1 v2 q5).bind (fun q8 => (some (q8.1, q8.2))))))))))))
set_option maxHeartbeats 4000000 in
set_option maxRecDepth 100000 in
theorem kX10_stone (l : Launch) (g : GG) (v1 : Int32) (v2 : Int32) (mc mm : Mem) (q : Int32 × Mem) (hF : F10_stone v1 v2 mm = some q) : KI l yX10_stone cX10_stone 3 .int 9 211 g [.ref (g.1 108), .int v1, .int v2] mc mm q.1 (mc, q.2) := by
  intro sz
  refine x_start (Qc := fun z => QI g z q.1 (mc, q.2)) (by decide +kernel) (Nat.le_of_ble_eq_true rfl) ?_ sz
  intro p e s m args below meth c ls Z hr hlk hP hl
  have hx := Z.1.1
  have hb := Z.1.2.1
  have hown := Z.1.2.2.2.1
  have hts := Z.1.2.2.2.2
  have hS : va_S (AA g s.heap.size) s.heap s.heap [] := va_S.rf
  have hl : lv_has ls 3 [(0, .ref (g.1 108)), (1, .int v1), (2, .int v2)] := hl
  unfold F10_stone at hF
  have hb28 : ∀  (M : Mem), F10_stone_b28 v1 v2 M = some q → ∀ (H : Heap) (locs : List Loc) (ls : Array Slot), lv_has ls 3 [] → va_P g.2.2.1 vwCl (wL g mc M) H → va_S (AA g s.heap.size) s.heap H locs → W p l e { frames := 9, cells := 0, slots := 0, locals := 211 } s m args below meth c H locs 0 0 (MQ below (QI g s.heap.size q.1 (mc, q.2)) args s 0 0 (AA g s.heap.size)) (F0 m 28 ls []) := by
    intro M hF H locs ls hl hP hS
    unfold F10_stone_b28 at hF
    refine lv_bipush (v := (-2 : Int32)) hx hb dX10_stone_28 bp_m2 ?_
    exact ret_IWM Z hr hlk hP hS hF dX10_stone_30
  refine lv_aload_n hx hb dX10_stone_0 rfl (lv_at hl 0 rfl) ?_
  obtain ⟨q5, hq5, hF⟩ := bd_ok hF
  refine xX10_find Z hP hS hq5 wd_22_5 hl.1 (Nat.le_of_ble_eq_true rfl) ⟨Nat.le_of_ble_eq_true rfl, Nat.le_of_ble_eq_true rfl⟩ dX10_stone_1 (fun H locs hP hS => ?_)
  refine lv_aload_n hx hb dX10_stone_4 rfl (lv_at hl 0 rfl) ?_
  refine lv_iload_n hx hb dX10_stone_5 rfl (lv_at hl 1 rfl) ?_
  obtain ⟨q6, hq6, hF⟩ := bd_ok hF
  refine xX10_isWell Z hP hS hq6 wd_15_22 hl.1 (Nat.le_of_ble_eq_true rfl) ⟨Nat.le_of_ble_eq_true rfl, Nat.le_of_ble_eq_true rfl⟩ dX10_stone_6 (fun H locs hP hS => ?_)
  refine lv_if_eq (tgt := 28) hx hb dX10_stone_9 rfl (fun hc => ?_) (fun hc => ?_)
  · have hF := (if_pos hc).symm.trans hF
    exact hb28 _ hF _ _ _ (lv_sub hl [] rfl) hP hS
  · have hF := (if_neg hc).symm.trans hF
    refine lv_iload_n hx hb dX10_stone_12 rfl (lv_at hl 2 rfl) ?_
    obtain ⟨q7, hq7, hF⟩ := bd_ok hF
    refine xX10_isTwo Z hP hS hq7 wd_13_5 hl.1 (Nat.le_of_ble_eq_true rfl) ⟨Nat.le_of_ble_eq_true rfl, Nat.le_of_ble_eq_true rfl⟩ dX10_stone_13 (fun H locs hP hS => ?_)
    refine lv_if_eq (tgt := 28) hx hb dX10_stone_16 rfl (fun hc => ?_) (fun hc => ?_)
    · have hF := (if_pos hc).symm.trans hF
      exact hb28 _ hF _ _ _ (lv_sub hl [] rfl) hP hS
    · have hF := (if_neg hc).symm.trans hF
      refine lv_aload_n hx hb dX10_stone_19 rfl (lv_at hl 0 rfl) ?_
      refine lv_iload_n hx hb dX10_stone_20 rfl (lv_at hl 1 rfl) ?_
      refine lv_iload_n hx hb dX10_stone_21 rfl (lv_at hl 2 rfl) ?_
      obtain ⟨q8, hq8, hF⟩ := bd_ok hF
      refine xX10_stoneOf Z hP hS hq8 wd_34_18 hl.1 (Nat.le_of_ble_eq_true rfl) ⟨Nat.le_of_ble_eq_true rfl, Nat.le_of_ble_eq_true rfl⟩ dX10_stone_22 (fun H locs hP hS => ?_)
      refine lv_goto (tgt := 30) hx hb dX10_stone_25 rfl ?_
      exact ret_IWM Z hr hlk hP hS hF dX10_stone_30
theorem xX10_stone {p : Program} {l : Launch} {e : Env} {R : Room} {s : State} {m : MethodId} {args : Array Value} {below : List Frame} {meth : Method} {c : Code} {H : Heap} {locs : List Loc} {Q : State → Prop} {cc : ByteArray} {nL : Nat} {own : String} {g : GG} {pc index : Nat} {ls : Array Slot} {rest : List Value} {mc mm : Mem} (Z : ZZ p s m args c cc nL own g) (hP : va_P g.2.2.1 vwCl (wL g mc mm) H) (hS : va_S (AA g s.heap.size) s.heap H locs) {v1 : Int32} {v2 : Int32} {q : Int32 × Mem} (hq : F10_stone v1 v2 mm = some q) (hlk : Cond.methodLink own index yX10_stone ∈ wsL_law) (hsz : ls.size = nL) (hro : (rest.map fun v => v.category).sum ≤ 8) (hR : 9 + 1 ≤ R.frames ∧ 8 + (3 + 11) + 211 ≤ R.locals) (hdg : decode cc pc = .ok (.invokevirtual index, 3)) (kk : ∀ (H : Heap) (locs : List Loc), va_P g.2.2.1 vwCl (wL g mc q.2) H → va_S (AA g s.heap.size) s.heap H locs → W p l e R s m args below meth c H locs 0 0 Q (F0 m (pc + 3) ls (.int q.1 :: rest))) : W p l e R s m args below meth c H locs 0 0 Q (F0 m pc ls (.int v2 :: .int v1 :: .ref (g.1 108) :: rest)) :=
  x_VI Z hP hS (kX10_stone l g v1 v2 mc mm q hq) (mO) (ci := 10) (by decide) rfl rfl mf_X10_stone mv_X10_stone hlk rfl rfl hsz hro hR hdg kk
theorem dX10_bucketOf_0 : decode cX10_bucketOf 0 = .ok (.aload_n 0, 1) := by decide +kernel
theorem dX10_bucketOf_1 : decode cX10_bucketOf 1 = .ok (.getfield 31, 3) := by decide +kernel
theorem dX10_bucketOf_4 : decode cX10_bucketOf 4 = .ok (.bipush 8, 2) := by decide +kernel
theorem dX10_bucketOf_6 : decode cX10_bucketOf 6 = .ok (.iload_n 1, 1) := by decide +kernel
theorem dX10_bucketOf_7 : decode cX10_bucketOf 7 = .ok (.imul, 1) := by decide +kernel
theorem dX10_bucketOf_8 : decode cX10_bucketOf 8 = .ok (.iconst 2, 1) := by decide +kernel
theorem dX10_bucketOf_9 : decode cX10_bucketOf 9 = .ok (.iadd, 1) := by decide +kernel
theorem dX10_bucketOf_10 : decode cX10_bucketOf 10 = .ok (.iaload, 1) := by decide +kernel
theorem dX10_bucketOf_11 : decode cX10_bucketOf 11 = .ok (.istore_n 2, 1) := by decide +kernel
theorem dX10_bucketOf_12 : decode cX10_bucketOf 12 = .ok (.iconst 0, 1) := by decide +kernel
theorem dX10_bucketOf_13 : decode cX10_bucketOf 13 = .ok (.istore_n 3, 1) := by decide +kernel
theorem dX10_bucketOf_14 : decode cX10_bucketOf 14 = .ok (.iconst 0, 1) := by decide +kernel
theorem dX10_bucketOf_15 : decode cX10_bucketOf 15 = .ok (.istore 4, 2) := by decide +kernel
theorem dX10_bucketOf_17 : decode cX10_bucketOf 17 = .ok (.iload 4, 2) := by decide +kernel
theorem dX10_bucketOf_19 : decode cX10_bucketOf 19 = .ok (.iconst 2, 1) := by decide +kernel
theorem dX10_bucketOf_20 : decode cX10_bucketOf 20 = .ok (.if_icmp .ge 40, 3) := by decide +kernel
theorem dX10_bucketOf_23 : decode cX10_bucketOf 23 = .ok (.aload_n 0, 1) := by decide +kernel
theorem dX10_bucketOf_24 : decode cX10_bucketOf 24 = .ok (.getfield 31, 3) := by decide +kernel
theorem dX10_bucketOf_27 : decode cX10_bucketOf 27 = .ok (.bipush 8, 2) := by decide +kernel
theorem dX10_bucketOf_29 : decode cX10_bucketOf 29 = .ok (.iload_n 1, 1) := by decide +kernel
theorem dX10_bucketOf_30 : decode cX10_bucketOf 30 = .ok (.imul, 1) := by decide +kernel
theorem dX10_bucketOf_31 : decode cX10_bucketOf 31 = .ok (.iconst 2, 1) := by decide +kernel
theorem dX10_bucketOf_32 : decode cX10_bucketOf 32 = .ok (.iadd, 1) := by decide +kernel
theorem dX10_bucketOf_33 : decode cX10_bucketOf 33 = .ok (.iload 4, 2) := by decide +kernel
theorem dX10_bucketOf_35 : decode cX10_bucketOf 35 = .ok (.iastore, 1) := by decide +kernel
theorem dX10_bucketOf_36 : decode cX10_bucketOf 36 = .ok (.iload_n 3, 1) := by decide +kernel
theorem dX10_bucketOf_37 : decode cX10_bucketOf 37 = .ok (.aload_n 0, 1) := by decide +kernel
theorem dX10_bucketOf_38 : decode cX10_bucketOf 38 = .ok (.invokevirtual 291, 3) := by decide +kernel
theorem dX10_bucketOf_41 : decode cX10_bucketOf 41 = .ok (.ifCond .eq 10, 3) := by decide +kernel
theorem dX10_bucketOf_44 : decode cX10_bucketOf 44 = .ok (.iconst 1, 1) := by decide +kernel
theorem dX10_bucketOf_45 : decode cX10_bucketOf 45 = .ok (.iload 4, 2) := by decide +kernel
theorem dX10_bucketOf_47 : decode cX10_bucketOf 47 = .ok (.ishl, 1) := by decide +kernel
theorem dX10_bucketOf_48 : decode cX10_bucketOf 48 = .ok (.goto 4, 3) := by decide +kernel
theorem dX10_bucketOf_51 : decode cX10_bucketOf 51 = .ok (.iconst 0, 1) := by decide +kernel
theorem dX10_bucketOf_52 : decode cX10_bucketOf 52 = .ok (.ior, 1) := by decide +kernel
theorem dX10_bucketOf_53 : decode cX10_bucketOf 53 = .ok (.istore_n 3, 1) := by decide +kernel
theorem dX10_bucketOf_54 : decode cX10_bucketOf 54 = .ok (.iinc 4 1, 3) := by decide +kernel
theorem dX10_bucketOf_57 : decode cX10_bucketOf 57 = .ok (.goto (-40), 3) := by decide +kernel
theorem dX10_bucketOf_60 : decode cX10_bucketOf 60 = .ok (.aload_n 0, 1) := by decide +kernel
theorem dX10_bucketOf_61 : decode cX10_bucketOf 61 = .ok (.getfield 31, 3) := by decide +kernel
theorem dX10_bucketOf_64 : decode cX10_bucketOf 64 = .ok (.bipush 8, 2) := by decide +kernel
theorem dX10_bucketOf_66 : decode cX10_bucketOf 66 = .ok (.iload_n 1, 1) := by decide +kernel
theorem dX10_bucketOf_67 : decode cX10_bucketOf 67 = .ok (.imul, 1) := by decide +kernel
theorem dX10_bucketOf_68 : decode cX10_bucketOf 68 = .ok (.iconst 2, 1) := by decide +kernel
theorem dX10_bucketOf_69 : decode cX10_bucketOf 69 = .ok (.iadd, 1) := by decide +kernel
theorem dX10_bucketOf_70 : decode cX10_bucketOf 70 = .ok (.iload_n 2, 1) := by decide +kernel
theorem dX10_bucketOf_71 : decode cX10_bucketOf 71 = .ok (.iastore, 1) := by decide +kernel
theorem dX10_bucketOf_72 : decode cX10_bucketOf 72 = .ok (.iload_n 3, 1) := by decide +kernel
theorem dX10_bucketOf_73 : decode cX10_bucketOf 73 = .ok (.ireturn, 1) := by decide +kernel
noncomputable def F10_bucketOf_b60 (v1 : Int32) (a2 : Int32) (a3 : Int32) (M : Mem) : Option (Int32 × Mem) :=
  (ck (((8 : Int32) * v1) + (2 : Int32)) 64 (some (a3, (mset M 8 (((8 : Int32) * v1) + (2 : Int32)).toNatClampNeg a2))))
noncomputable def F10_bucketOf_b52 (kh : Int32 → Int32 → Int32 → Mem → Option (Int32 × Mem)) (kx60 : Int32 → Int32 → Mem → Option (Int32 × Mem)) (v1 : Int32) (a2 : Int32) (a4 : Int32) (s0 : Int32) (s1 : Int32) (M : Mem) : Option (Int32 × Mem) :=
  kh a2 (s0 ||| s1) (a4 + (1 : Int32)) M
noncomputable def F10_bucketOf_p17 (kh : Int32 → Int32 → Int32 → Mem → Option (Int32 × Mem)) (kx60 : Int32 → Int32 → Mem → Option (Int32 × Mem)) (v1 : Int32) (a2 : Int32) (a3 : Int32) (a4 : Int32) (M : Mem) : Option (Int32 × Mem) :=
  (if (2 : Int32) ≤ a4 then kx60 a2 a3 M else (ck (((8 : Int32) * v1) + (2 : Int32)) 64 (lt (mset M 8 (((8 : Int32) * v1) + (2 : Int32)).toNatClampNeg a4) (fun M8 => ((F10_isDrawn M8).bind (fun q9 => (if q9.1 = (0 : Int32) then (F10_bucketOf_b52 kh kx60 v1) a2 a4 a3 (0 : Int32) q9.2 else (F10_bucketOf_b52 kh kx60 v1) a2 a4 a3 ((1 : Int32) <<< (a4 &&& (31 : Int32))) q9.2)))))))
noncomputable def F10_bucketOf_h17 (kx60 : Int32 → Int32 → Mem → Option (Int32 × Mem)) (v1 : Int32) : Nat → Int32 → Int32 → Int32 → Mem → Option (Int32 × Mem)
  | 0, _, _, _, _ => none
  | n + 1, a2, a3, a4, M => F10_bucketOf_p17 (F10_bucketOf_h17 kx60 v1 n) kx60 v1 a2 a3 a4 M
noncomputable def F10_bucketOf (v1 : Int32) (mm : Mem) : Option (Int32 × Mem) :=
  (ck (((8 : Int32) * v1) + (2 : Int32)) 64 ((F10_bucketOf_h17 (F10_bucketOf_b60 v1) v1 FU) (mm 8 (((8 : Int32) * v1) + (2 : Int32)).toNatClampNeg) (0 : Int32) (0 : Int32) mm))
set_option maxHeartbeats 4000000 in
set_option maxRecDepth 100000 in
theorem kX10_bucketOf (l : Launch) (g : GG) (v1 : Int32) (mc mm : Mem) (q : Int32 × Mem) (hF : F10_bucketOf v1 mm = some q) : KI l yX10_bucketOf cX10_bucketOf 5 .int 7 162 g [.ref (g.1 108), .int v1] mc mm q.1 (mc, q.2) := by
  intro sz
  refine x_start (Qc := fun z => QI g z q.1 (mc, q.2)) (by decide +kernel) (Nat.le_of_ble_eq_true rfl) ?_ sz
  intro p e s m args below meth c ls Z hr hlk hP hl
  have hx := Z.1.1
  have hb := Z.1.2.1
  have hown := Z.1.2.2.2.1
  have hts := Z.1.2.2.2.2
  have hS : va_S (AA g s.heap.size) s.heap s.heap [] := va_S.rf
  have hl : lv_has ls 5 [(0, .ref (g.1 108)), (1, .int v1)] := hl
  unfold F10_bucketOf at hF
  have hb60 : ∀ (a2 : Int32) (a3 : Int32) (M : Mem), F10_bucketOf_b60 v1 a2 a3 M = some q → ∀ (H : Heap) (locs : List Loc) (ls : Array Slot), lv_has ls 5 [(0, .ref (g.1 108)), (1, .int v1), (2, .int a2), (3, .int a3)] → va_P g.2.2.1 vwCl (wL g mc M) H → va_S (AA g s.heap.size) s.heap H locs → W p l e { frames := 7, cells := 0, slots := 0, locals := 162 } s m args below meth c H locs 0 0 (MQ below (QI g s.heap.size q.1 (mc, q.2)) args s 0 0 (AA g s.heap.size)) (F0 m 60 ls []) := by
    intro a2 a3 M hF H locs ls hl hP hS
    unfold F10_bucketOf_b60 at hF
    refine lv_aload_n hx hb dX10_bucketOf_60 rfl (lv_at hl 0 rfl) ?_
    refine gf10_10 Z hP wd_6_11 dX10_bucketOf_61 ?_
    refine lv_bipush (v := (8 : Int32)) hx hb dX10_bucketOf_64 bp_8 ?_
    refine lv_iload_n hx hb dX10_bucketOf_66 rfl (lv_at hl 1 rfl) ?_
    refine lv_imul hx hb dX10_bucketOf_67 ?_
    refine lv_iconst (v := (2 : Int32)) hx hb dX10_bucketOf_68 ic_2 ?_
    refine lv_iadd hx hb dX10_bucketOf_69 ?_
    refine lv_iload_n hx hb dX10_bucketOf_70 rfl (lv_at hl 2 rfl) ?_
    obtain ⟨hi6, hF⟩ := ck_ok hF
    refine rM_st Z hP hS 64 8 (by decide +kernel) hi6 dX10_bucketOf_71 (fun H locs hP hS => ?_)
    refine lv_iload_n hx hb dX10_bucketOf_72 rfl (lv_at hl 3 rfl) ?_
    exact ret_IWM Z hr hlk hP hS hF dX10_bucketOf_73
  have hL17 : ∀ (kx60 : Int32 → Int32 → Mem → Option (Int32 × Mem)), (∀ (a2 : Int32) (a3 : Int32) (M : Mem), kx60 a2 a3 M = some q → ∀ (H : Heap) (locs : List Loc) (ls : Array Slot), lv_has ls 5 [(0, .ref (g.1 108)), (1, .int v1), (2, .int a2), (3, .int a3)] → va_P g.2.2.1 vwCl (wL g mc M) H → va_S (AA g s.heap.size) s.heap H locs → W p l e { frames := 7, cells := 0, slots := 0, locals := 162 } s m args below meth c H locs 0 0 (MQ below (QI g s.heap.size q.1 (mc, q.2)) args s 0 0 (AA g s.heap.size)) (F0 m 60 ls [])) → ∀ n : Nat, ∀ (a2 : Int32) (a3 : Int32) (a4 : Int32) (M : Mem), F10_bucketOf_h17 kx60 v1 n a2 a3 a4 M = some q → ∀ (H : Heap) (locs : List Loc) (ls : Array Slot), lv_has ls 5 [(0, .ref (g.1 108)), (1, .int v1), (2, .int a2), (3, .int a3), (4, .int a4)] → va_P g.2.2.1 vwCl (wL g mc M) H → va_S (AA g s.heap.size) s.heap H locs → W p l e { frames := 7, cells := 0, slots := 0, locals := 162 } s m args below meth c H locs 0 0 (MQ below (QI g s.heap.size q.1 (mc, q.2)) args s 0 0 (AA g s.heap.size)) (F0 m 17 ls []) := by
    intro kx60 hx60 n
    induction n with
    | zero => intro a2 a3 a4 M hF H locs ls hl hP hS; exact absurd hF (fun z => nomatch (show (none : Option _) = some q from z))
    | succ n ih =>
      generalize hkh : F10_bucketOf_h17 kx60 v1 n = kh at ih
      have hb52 : ∀ (a2 : Int32) (a4 : Int32) (s0 : Int32) (s1 : Int32) (M : Mem), F10_bucketOf_b52 kh kx60 v1 a2 a4 s0 s1 M = some q → ∀ (H : Heap) (locs : List Loc) (ls : Array Slot), lv_has ls 5 [(0, .ref (g.1 108)), (1, .int v1), (2, .int a2), (4, .int a4)] → va_P g.2.2.1 vwCl (wL g mc M) H → va_S (AA g s.heap.size) s.heap H locs → W p l e { frames := 7, cells := 0, slots := 0, locals := 162 } s m args below meth c H locs 0 0 (MQ below (QI g s.heap.size q.1 (mc, q.2)) args s 0 0 (AA g s.heap.size)) (F0 m 52 ls [.int s1, .int s0]) := by
        intro a2 a4 s0 s1 M hF H locs ls hl hP hS
        unfold F10_bucketOf_b52 at hF
        refine lv_ior hx hb dX10_bucketOf_52 ?_
        refine lv_istore_n (lv' := [(3, .int (s0 ||| s1)), (0, .ref (g.1 108)), (1, .int v1), (2, .int a2), (4, .int a4)]) hx hb dX10_bucketOf_53 rfl hl (Nat.le_of_ble_eq_true rfl) rfl (fun ls hl => ?_)
        refine lv_iinc (lv' := [(4, .int (a4 + (1 : Int32))), (3, .int (s0 ||| s1)), (0, .ref (g.1 108)), (1, .int v1), (2, .int a2)]) (v := (a4 + (1 : Int32))) hx hb dX10_bucketOf_54 hl (k := 4) rfl (io_1 _) (Nat.le_of_ble_eq_true rfl) rfl (fun ls hl => ?_)
        refine lv_goto (tgt := 17) hx hb dX10_bucketOf_57 rfl ?_
        exact ih _ _ _ _ hF _ _ _ (lv_sub hl [2, 3, 4, 1, 0] rfl) hP hS
      intro a2 a3 a4 M hF H locs ls hl hP hS
      have hF : F10_bucketOf_p17 (F10_bucketOf_h17 kx60 v1 n) kx60 v1 a2 a3 a4 M = some q := hF
      rw [hkh] at hF
      unfold F10_bucketOf_p17 at hF
      refine lv_iload hx hb dX10_bucketOf_17 (lv_at hl 4 rfl) ?_
      refine lv_iconst (v := (2 : Int32)) hx hb dX10_bucketOf_19 ic_2 ?_
      refine lv_icmp_ge (tgt := 60) hx hb dX10_bucketOf_20 rfl (fun hc => ?_) (fun hc => ?_)
      · have hF := (if_pos hc).symm.trans hF
        exact hx60 _ _ _ hF _ _ _ (lv_sub hl [0, 1, 2, 3] rfl) hP hS
      · have hF := (if_neg hc).symm.trans hF
        refine lv_aload_n hx hb dX10_bucketOf_23 rfl (lv_at hl 0 rfl) ?_
        refine gf10_10 Z hP wd_6_11 dX10_bucketOf_24 ?_
        refine lv_bipush (v := (8 : Int32)) hx hb dX10_bucketOf_27 bp_8 ?_
        refine lv_iload_n hx hb dX10_bucketOf_29 rfl (lv_at hl 1 rfl) ?_
        refine lv_imul hx hb dX10_bucketOf_30 ?_
        refine lv_iconst (v := (2 : Int32)) hx hb dX10_bucketOf_31 ic_2 ?_
        refine lv_iadd hx hb dX10_bucketOf_32 ?_
        refine lv_iload hx hb dX10_bucketOf_33 (lv_at hl 4 rfl) ?_
        obtain ⟨hi7, hF⟩ := ck_ok hF
        refine rM_st Z hP hS 64 8 (by decide +kernel) hi7 dX10_bucketOf_35 (fun H locs hP hS => ?_)
        refine lv_iload_n hx hb dX10_bucketOf_36 rfl (lv_at hl 3 rfl) ?_
        refine lv_aload_n hx hb dX10_bucketOf_37 rfl (lv_at hl 0 rfl) ?_
        obtain ⟨M8, eM8, hF⟩ := lt_ok hF
        have hP : va_P g.2.2.1 vwCl (wL g mc M8) H := by rw [eM8]; exact hP
        obtain ⟨q9, hq9, hF⟩ := bd_ok hF
        refine xX10_isDrawn Z hP hS hq9 wd_33_14 hl.1 (Nat.le_of_ble_eq_true rfl) ⟨Nat.le_of_ble_eq_true rfl, Nat.le_of_ble_eq_true rfl⟩ dX10_bucketOf_38 (fun H locs hP hS => ?_)
        refine lv_if_eq (tgt := 51) hx hb dX10_bucketOf_41 rfl (fun hc => ?_) (fun hc => ?_)
        · have hF := (if_pos hc).symm.trans hF
          refine lv_iconst (v := (0 : Int32)) hx hb dX10_bucketOf_51 ic_0 ?_
          exact hb52 _ _ _ _ _ hF _ _ _ (lv_sub hl [0, 1, 2, 4] rfl) hP hS
        · have hF := (if_neg hc).symm.trans hF
          refine lv_iconst (v := (1 : Int32)) hx hb dX10_bucketOf_44 ic_1 ?_
          refine lv_iload hx hb dX10_bucketOf_45 (lv_at hl 4 rfl) ?_
          refine lv_ishl hx hb dX10_bucketOf_47 ?_
          refine lv_goto (tgt := 52) hx hb dX10_bucketOf_48 rfl ?_
          exact hb52 _ _ _ _ _ hF _ _ _ (lv_sub hl [0, 1, 2, 4] rfl) hP hS
  refine lv_aload_n hx hb dX10_bucketOf_0 rfl (lv_at hl 0 rfl) ?_
  refine gf10_10 Z hP wd_6_11 dX10_bucketOf_1 ?_
  refine lv_bipush (v := (8 : Int32)) hx hb dX10_bucketOf_4 bp_8 ?_
  refine lv_iload_n hx hb dX10_bucketOf_6 rfl (lv_at hl 1 rfl) ?_
  refine lv_imul hx hb dX10_bucketOf_7 ?_
  refine lv_iconst (v := (2 : Int32)) hx hb dX10_bucketOf_8 ic_2 ?_
  refine lv_iadd hx hb dX10_bucketOf_9 ?_
  obtain ⟨hi10, hF⟩ := ck_ok hF
  refine rM_ld Z hP 64 8 (by decide +kernel) hi10 dX10_bucketOf_10 ?_
  refine lv_istore_n (lv' := [(2, .int (mm 8 (((8 : Int32) * v1) + (2 : Int32)).toNatClampNeg)), (0, .ref (g.1 108)), (1, .int v1)]) hx hb dX10_bucketOf_11 rfl hl (Nat.le_of_ble_eq_true rfl) rfl (fun ls hl => ?_)
  refine lv_iconst (v := (0 : Int32)) hx hb dX10_bucketOf_12 ic_0 ?_
  refine lv_istore_n (lv' := [(3, .int (0 : Int32)), (2, .int (mm 8 (((8 : Int32) * v1) + (2 : Int32)).toNatClampNeg)), (0, .ref (g.1 108)), (1, .int v1)]) hx hb dX10_bucketOf_13 rfl hl (Nat.le_of_ble_eq_true rfl) rfl (fun ls hl => ?_)
  refine lv_iconst (v := (0 : Int32)) hx hb dX10_bucketOf_14 ic_0 ?_
  refine lv_istore (lv' := [(4, .int (0 : Int32)), (3, .int (0 : Int32)), (2, .int (mm 8 (((8 : Int32) * v1) + (2 : Int32)).toNatClampNeg)), (0, .ref (g.1 108)), (1, .int v1)]) hx hb dX10_bucketOf_15 hl (Nat.le_of_ble_eq_true rfl) rfl (fun ls hl => ?_)
  exact (hL17 _ hb60 FU) _ _ _ _ hF _ _ _ (lv_sub hl [3, 4, 2, 1, 0] rfl) hP hS
theorem xX10_bucketOf {p : Program} {l : Launch} {e : Env} {R : Room} {s : State} {m : MethodId} {args : Array Value} {below : List Frame} {meth : Method} {c : Code} {H : Heap} {locs : List Loc} {Q : State → Prop} {cc : ByteArray} {nL : Nat} {own : String} {g : GG} {pc index : Nat} {ls : Array Slot} {rest : List Value} {mc mm : Mem} (Z : ZZ p s m args c cc nL own g) (hP : va_P g.2.2.1 vwCl (wL g mc mm) H) (hS : va_S (AA g s.heap.size) s.heap H locs) {v1 : Int32} {q : Int32 × Mem} (hq : F10_bucketOf v1 mm = some q) (hlk : Cond.methodLink own index yX10_bucketOf ∈ wsL_law) (hsz : ls.size = nL) (hro : (rest.map fun v => v.category).sum ≤ 8) (hR : 7 + 1 ≤ R.frames ∧ 8 + (5 + 11) + 162 ≤ R.locals) (hdg : decode cc pc = .ok (.invokevirtual index, 3)) (kk : ∀ (H : Heap) (locs : List Loc), va_P g.2.2.1 vwCl (wL g mc q.2) H → va_S (AA g s.heap.size) s.heap H locs → W p l e R s m args below meth c H locs 0 0 Q (F0 m (pc + 3) ls (.int q.1 :: rest))) : W p l e R s m args below meth c H locs 0 0 Q (F0 m pc ls (.int v1 :: .ref (g.1 108) :: rest)) :=
  x_VI Z hP hS (kX10_bucketOf l g v1 mc mm q hq) (mO) (ci := 10) (by decide) rfl rfl mf_X10_bucketOf mv_X10_bucketOf hlk rfl rfl hsz hro hR hdg kk
theorem dX10_bucket_0 : decode cX10_bucket 0 = .ok (.aload_n 0, 1) := by decide +kernel
theorem dX10_bucket_1 : decode cX10_bucket 1 = .ok (.invokevirtual 236, 3) := by decide +kernel
theorem dX10_bucket_4 : decode cX10_bucket 4 = .ok (.aload_n 0, 1) := by decide +kernel
theorem dX10_bucket_5 : decode cX10_bucket 5 = .ok (.iload_n 1, 1) := by decide +kernel
theorem dX10_bucket_6 : decode cX10_bucket 6 = .ok (.invokevirtual 166, 3) := by decide +kernel
theorem dX10_bucket_9 : decode cX10_bucket 9 = .ok (.ifCond .eq 11, 3) := by decide +kernel
theorem dX10_bucket_12 : decode cX10_bucket 12 = .ok (.aload_n 0, 1) := by decide +kernel
theorem dX10_bucket_13 : decode cX10_bucket 13 = .ok (.iload_n 1, 1) := by decide +kernel
theorem dX10_bucket_14 : decode cX10_bucket 14 = .ok (.invokevirtual 307, 3) := by decide +kernel
theorem dX10_bucket_17 : decode cX10_bucket 17 = .ok (.goto 5, 3) := by decide +kernel
theorem dX10_bucket_20 : decode cX10_bucket 20 = .ok (.bipush (-2), 2) := by decide +kernel
theorem dX10_bucket_22 : decode cX10_bucket 22 = .ok (.ireturn, 1) := by decide +kernel
noncomputable def F10_bucket (v1 : Int32) (mm : Mem) : Option (Int32 × Mem) :=
  ((F10_find mm).bind (fun q4 => ((F10_isSaying v1 q4).bind (fun q5 => (if q5 = (0 : Int32) then some ((-2 : Int32), q4) else ((F10_bucketOf v1 q4).bind (fun q6 => (some (q6.1, q6.2)))))))))
set_option maxHeartbeats 4000000 in
set_option maxRecDepth 100000 in
theorem kX10_bucket (l : Launch) (g : GG) (v1 : Int32) (mc mm : Mem) (q : Int32 × Mem) (hF : F10_bucket v1 mm = some q) : KI l yX10_bucket cX10_bucket 2 .int 8 186 g [.ref (g.1 108), .int v1] mc mm q.1 (mc, q.2) := by
  intro sz
  refine x_start (Qc := fun z => QI g z q.1 (mc, q.2)) (by decide +kernel) (Nat.le_of_ble_eq_true rfl) ?_ sz
  intro p e s m args below meth c ls Z hr hlk hP hl
  have hx := Z.1.1
  have hb := Z.1.2.1
  have hown := Z.1.2.2.2.1
  have hts := Z.1.2.2.2.2
  have hS : va_S (AA g s.heap.size) s.heap s.heap [] := va_S.rf
  have hl : lv_has ls 2 [(0, .ref (g.1 108)), (1, .int v1)] := hl
  unfold F10_bucket at hF
  refine lv_aload_n hx hb dX10_bucket_0 rfl (lv_at hl 0 rfl) ?_
  obtain ⟨q4, hq4, hF⟩ := bd_ok hF
  refine xX10_find Z hP hS hq4 wd_22_5 hl.1 (Nat.le_of_ble_eq_true rfl) ⟨Nat.le_of_ble_eq_true rfl, Nat.le_of_ble_eq_true rfl⟩ dX10_bucket_1 (fun H locs hP hS => ?_)
  refine lv_aload_n hx hb dX10_bucket_4 rfl (lv_at hl 0 rfl) ?_
  refine lv_iload_n hx hb dX10_bucket_5 rfl (lv_at hl 1 rfl) ?_
  obtain ⟨q5, hq5, hF⟩ := bd_ok hF
  refine xX10_isSaying Z hP hS hq5 wd_17_3 hl.1 (Nat.le_of_ble_eq_true rfl) ⟨Nat.le_of_ble_eq_true rfl, Nat.le_of_ble_eq_true rfl⟩ dX10_bucket_6 (fun H locs hP hS => ?_)
  refine lv_if_eq (tgt := 20) hx hb dX10_bucket_9 rfl (fun hc => ?_) (fun hc => ?_)
  · have hF := (if_pos hc).symm.trans hF
    refine lv_bipush (v := (-2 : Int32)) hx hb dX10_bucket_20 bp_m2 ?_
    exact ret_IWM Z hr hlk hP hS hF dX10_bucket_22
  · have hF := (if_neg hc).symm.trans hF
    refine lv_aload_n hx hb dX10_bucket_12 rfl (lv_at hl 0 rfl) ?_
    refine lv_iload_n hx hb dX10_bucket_13 rfl (lv_at hl 1 rfl) ?_
    obtain ⟨q6, hq6, hF⟩ := bd_ok hF
    refine xX10_bucketOf Z hP hS hq6 wd_35_14 hl.1 (Nat.le_of_ble_eq_true rfl) ⟨Nat.le_of_ble_eq_true rfl, Nat.le_of_ble_eq_true rfl⟩ dX10_bucket_14 (fun H locs hP hS => ?_)
    refine lv_goto (tgt := 22) hx hb dX10_bucket_17 rfl ?_
    exact ret_IWM Z hr hlk hP hS hF dX10_bucket_22
theorem xX10_bucket {p : Program} {l : Launch} {e : Env} {R : Room} {s : State} {m : MethodId} {args : Array Value} {below : List Frame} {meth : Method} {c : Code} {H : Heap} {locs : List Loc} {Q : State → Prop} {cc : ByteArray} {nL : Nat} {own : String} {g : GG} {pc index : Nat} {ls : Array Slot} {rest : List Value} {mc mm : Mem} (Z : ZZ p s m args c cc nL own g) (hP : va_P g.2.2.1 vwCl (wL g mc mm) H) (hS : va_S (AA g s.heap.size) s.heap H locs) {v1 : Int32} {q : Int32 × Mem} (hq : F10_bucket v1 mm = some q) (hlk : Cond.methodLink own index yX10_bucket ∈ wsL_law) (hsz : ls.size = nL) (hro : (rest.map fun v => v.category).sum ≤ 8) (hR : 8 + 1 ≤ R.frames ∧ 8 + (2 + 11) + 186 ≤ R.locals) (hdg : decode cc pc = .ok (.invokevirtual index, 3)) (kk : ∀ (H : Heap) (locs : List Loc), va_P g.2.2.1 vwCl (wL g mc q.2) H → va_S (AA g s.heap.size) s.heap H locs → W p l e R s m args below meth c H locs 0 0 Q (F0 m (pc + 3) ls (.int q.1 :: rest))) : W p l e R s m args below meth c H locs 0 0 Q (F0 m pc ls (.int v1 :: .ref (g.1 108) :: rest)) :=
  x_VI Z hP hS (kX10_bucket l g v1 mc mm q hq) (mO) (ci := 10) (by decide) rfl rfl mf_X10_bucket mv_X10_bucket hlk rfl rfl hsz hro hR hdg kk

theorem dX10_tellOf_0 : decode cX10_tellOf 0 = .ok (.aload_n 0, 1) := by decide +kernel
theorem dX10_tellOf_1 : decode cX10_tellOf 1 = .ok (.getfield 31, 3) := by decide +kernel
theorem dX10_tellOf_4 : decode cX10_tellOf 4 = .ok (.bipush 8, 2) := by decide +kernel
theorem dX10_tellOf_6 : decode cX10_tellOf 6 = .ok (.iload_n 1, 1) := by decide +kernel
theorem dX10_tellOf_7 : decode cX10_tellOf 7 = .ok (.imul, 1) := by decide +kernel
theorem dX10_tellOf_8 : decode cX10_tellOf 8 = .ok (.iconst 1, 1) := by decide +kernel
theorem dX10_tellOf_9 : decode cX10_tellOf 9 = .ok (.iadd, 1) := by decide +kernel
theorem dX10_tellOf_10 : decode cX10_tellOf 10 = .ok (.iaload, 1) := by decide +kernel
theorem dX10_tellOf_11 : decode cX10_tellOf 11 = .ok (.istore 4, 2) := by decide +kernel
theorem dX10_tellOf_13 : decode cX10_tellOf 13 = .ok (.iconst (-1), 1) := by decide +kernel
theorem dX10_tellOf_14 : decode cX10_tellOf 14 = .ok (.istore 5, 2) := by decide +kernel
theorem dX10_tellOf_16 : decode cX10_tellOf 16 = .ok (.iconst (-1), 1) := by decide +kernel
theorem dX10_tellOf_17 : decode cX10_tellOf 17 = .ok (.istore 6, 2) := by decide +kernel
theorem dX10_tellOf_19 : decode cX10_tellOf 19 = .ok (.iconst 0, 1) := by decide +kernel
theorem dX10_tellOf_20 : decode cX10_tellOf 20 = .ok (.istore 7, 2) := by decide +kernel
theorem dX10_tellOf_22 : decode cX10_tellOf 22 = .ok (.iload 7, 2) := by decide +kernel
theorem dX10_tellOf_24 : decode cX10_tellOf 24 = .ok (.aload_n 0, 1) := by decide +kernel
theorem dX10_tellOf_25 : decode cX10_tellOf 25 = .ok (.getfield 120, 3) := by decide +kernel
theorem dX10_tellOf_28 : decode cX10_tellOf 28 = .ok (.if_icmp .ge 89, 3) := by decide +kernel
theorem dX10_tellOf_31 : decode cX10_tellOf 31 = .ok (.aload_n 0, 1) := by decide +kernel
theorem dX10_tellOf_32 : decode cX10_tellOf 32 = .ok (.getfield 31, 3) := by decide +kernel
theorem dX10_tellOf_35 : decode cX10_tellOf 35 = .ok (.bipush 8, 2) := by decide +kernel
theorem dX10_tellOf_37 : decode cX10_tellOf 37 = .ok (.iload_n 1, 1) := by decide +kernel
theorem dX10_tellOf_38 : decode cX10_tellOf 38 = .ok (.imul, 1) := by decide +kernel
theorem dX10_tellOf_39 : decode cX10_tellOf 39 = .ok (.iconst 1, 1) := by decide +kernel
theorem dX10_tellOf_40 : decode cX10_tellOf 40 = .ok (.iadd, 1) := by decide +kernel
theorem dX10_tellOf_41 : decode cX10_tellOf 41 = .ok (.iload 7, 2) := by decide +kernel
theorem dX10_tellOf_43 : decode cX10_tellOf 43 = .ok (.iastore, 1) := by decide +kernel
theorem dX10_tellOf_44 : decode cX10_tellOf 44 = .ok (.aload_n 0, 1) := by decide +kernel
theorem dX10_tellOf_45 : decode cX10_tellOf 45 = .ok (.iload_n 1, 1) := by decide +kernel
theorem dX10_tellOf_46 : decode cX10_tellOf 46 = .ok (.invokevirtual 230, 3) := by decide +kernel
theorem dX10_tellOf_49 : decode cX10_tellOf 49 = .ok (.aload_n 0, 1) := by decide +kernel
theorem dX10_tellOf_50 : decode cX10_tellOf 50 = .ok (.iload_n 1, 1) := by decide +kernel
theorem dX10_tellOf_51 : decode cX10_tellOf 51 = .ok (.iload_n 2, 1) := by decide +kernel
theorem dX10_tellOf_52 : decode cX10_tellOf 52 = .ok (.invokevirtual 244, 3) := by decide +kernel
theorem dX10_tellOf_55 : decode cX10_tellOf 55 = .ok (.istore 8, 2) := by decide +kernel
theorem dX10_tellOf_57 : decode cX10_tellOf 57 = .ok (.iload 8, 2) := by decide +kernel
theorem dX10_tellOf_59 : decode cX10_tellOf 59 = .ok (.iconst (-1), 1) := by decide +kernel
theorem dX10_tellOf_60 : decode cX10_tellOf 60 = .ok (.if_icmp .eq 20, 3) := by decide +kernel
theorem dX10_tellOf_63 : decode cX10_tellOf 63 = .ok (.iload 6, 2) := by decide +kernel
theorem dX10_tellOf_65 : decode cX10_tellOf 65 = .ok (.iconst (-1), 1) := by decide +kernel
theorem dX10_tellOf_66 : decode cX10_tellOf 66 = .ok (.if_icmp .eq 10, 3) := by decide +kernel
theorem dX10_tellOf_69 : decode cX10_tellOf 69 = .ok (.iload 8, 2) := by decide +kernel
theorem dX10_tellOf_71 : decode cX10_tellOf 71 = .ok (.iload 6, 2) := by decide +kernel
theorem dX10_tellOf_73 : decode cX10_tellOf 73 = .ok (.if_icmp .ge 7, 3) := by decide +kernel
theorem dX10_tellOf_76 : decode cX10_tellOf 76 = .ok (.iconst 1, 1) := by decide +kernel
theorem dX10_tellOf_77 : decode cX10_tellOf 77 = .ok (.goto 4, 3) := by decide +kernel
theorem dX10_tellOf_80 : decode cX10_tellOf 80 = .ok (.iconst 0, 1) := by decide +kernel
theorem dX10_tellOf_81 : decode cX10_tellOf 81 = .ok (.istore 9, 2) := by decide +kernel
theorem dX10_tellOf_83 : decode cX10_tellOf 83 = .ok (.iload 9, 2) := by decide +kernel
theorem dX10_tellOf_85 : decode cX10_tellOf 85 = .ok (.ifCond .eq 8, 3) := by decide +kernel
theorem dX10_tellOf_88 : decode cX10_tellOf 88 = .ok (.iload 7, 2) := by decide +kernel
theorem dX10_tellOf_90 : decode cX10_tellOf 90 = .ok (.goto 5, 3) := by decide +kernel
theorem dX10_tellOf_93 : decode cX10_tellOf 93 = .ok (.iload 5, 2) := by decide +kernel
theorem dX10_tellOf_95 : decode cX10_tellOf 95 = .ok (.istore 5, 2) := by decide +kernel
theorem dX10_tellOf_97 : decode cX10_tellOf 97 = .ok (.iload 9, 2) := by decide +kernel
theorem dX10_tellOf_99 : decode cX10_tellOf 99 = .ok (.ifCond .eq 8, 3) := by decide +kernel
theorem dX10_tellOf_102 : decode cX10_tellOf 102 = .ok (.iload 8, 2) := by decide +kernel
theorem dX10_tellOf_104 : decode cX10_tellOf 104 = .ok (.goto 5, 3) := by decide +kernel
theorem dX10_tellOf_107 : decode cX10_tellOf 107 = .ok (.iload 6, 2) := by decide +kernel
theorem dX10_tellOf_109 : decode cX10_tellOf 109 = .ok (.istore 6, 2) := by decide +kernel
theorem dX10_tellOf_111 : decode cX10_tellOf 111 = .ok (.iinc 7 1, 3) := by decide +kernel
theorem dX10_tellOf_114 : decode cX10_tellOf 114 = .ok (.goto (-92), 3) := by decide +kernel
theorem dX10_tellOf_117 : decode cX10_tellOf 117 = .ok (.aload_n 0, 1) := by decide +kernel
theorem dX10_tellOf_118 : decode cX10_tellOf 118 = .ok (.getfield 31, 3) := by decide +kernel
theorem dX10_tellOf_121 : decode cX10_tellOf 121 = .ok (.bipush 8, 2) := by decide +kernel
theorem dX10_tellOf_123 : decode cX10_tellOf 123 = .ok (.iload_n 1, 1) := by decide +kernel
theorem dX10_tellOf_124 : decode cX10_tellOf 124 = .ok (.imul, 1) := by decide +kernel
theorem dX10_tellOf_125 : decode cX10_tellOf 125 = .ok (.iconst 1, 1) := by decide +kernel
theorem dX10_tellOf_126 : decode cX10_tellOf 126 = .ok (.iadd, 1) := by decide +kernel
theorem dX10_tellOf_127 : decode cX10_tellOf 127 = .ok (.iload 4, 2) := by decide +kernel
theorem dX10_tellOf_129 : decode cX10_tellOf 129 = .ok (.iastore, 1) := by decide +kernel
theorem dX10_tellOf_130 : decode cX10_tellOf 130 = .ok (.iload_n 3, 1) := by decide +kernel
theorem dX10_tellOf_131 : decode cX10_tellOf 131 = .ok (.ifCond .ne 8, 3) := by decide +kernel
theorem dX10_tellOf_134 : decode cX10_tellOf 134 = .ok (.iload 5, 2) := by decide +kernel
theorem dX10_tellOf_136 : decode cX10_tellOf 136 = .ok (.goto 5, 3) := by decide +kernel
theorem dX10_tellOf_139 : decode cX10_tellOf 139 = .ok (.iload 6, 2) := by decide +kernel
theorem dX10_tellOf_141 : decode cX10_tellOf 141 = .ok (.ireturn, 1) := by decide +kernel
noncomputable def F10_tellOf_b117 (v1 : Int32) (v2 : Int32) (v3 : Int32) (a4 : Int32) (a5 : Int32) (a6 : Int32) (M : Mem) : Option (Int32 × Mem) :=
  (ck (((8 : Int32) * v1) + (1 : Int32)) 64 (if v3 = (0 : Int32) then some (a5, (mset M 8 (((8 : Int32) * v1) + (1 : Int32)).toNatClampNeg a4)) else some (a6, (mset M 8 (((8 : Int32) * v1) + (1 : Int32)).toNatClampNeg a4))))
noncomputable def F10_tellOf_b109 (kh : Int32 → Int32 → Int32 → Int32 → Mem → Option (Int32 × Mem)) (kx117 : Int32 → Int32 → Int32 → Mem → Option (Int32 × Mem)) (v1 : Int32) (v2 : Int32) (v3 : Int32) (a4 : Int32) (a5 : Int32) (a7 : Int32) (s0 : Int32) (M : Mem) : Option (Int32 × Mem) :=
  kh a4 a5 s0 (a7 + (1 : Int32)) M
noncomputable def F10_tellOf_b95 (kh : Int32 → Int32 → Int32 → Int32 → Mem → Option (Int32 × Mem)) (kx117 : Int32 → Int32 → Int32 → Mem → Option (Int32 × Mem)) (v1 : Int32) (v2 : Int32) (v3 : Int32) (a4 : Int32) (a6 : Int32) (a7 : Int32) (a8 : Int32) (a9 : Int32) (s0 : Int32) (M : Mem) : Option (Int32 × Mem) :=
  (if a9 = (0 : Int32) then (F10_tellOf_b109 kh kx117 v1 v2 v3) a4 s0 a7 a6 M else (F10_tellOf_b109 kh kx117 v1 v2 v3) a4 s0 a7 a8 M)
noncomputable def F10_tellOf_b81 (kh : Int32 → Int32 → Int32 → Int32 → Mem → Option (Int32 × Mem)) (kx117 : Int32 → Int32 → Int32 → Mem → Option (Int32 × Mem)) (v1 : Int32) (v2 : Int32) (v3 : Int32) (a4 : Int32) (a5 : Int32) (a6 : Int32) (a7 : Int32) (a8 : Int32) (s0 : Int32) (M : Mem) : Option (Int32 × Mem) :=
  (if s0 = (0 : Int32) then (F10_tellOf_b95 kh kx117 v1 v2 v3) a4 a6 a7 a8 s0 a5 M else (F10_tellOf_b95 kh kx117 v1 v2 v3) a4 a6 a7 a8 s0 a7 M)
noncomputable def F10_tellOf_b80 (kh : Int32 → Int32 → Int32 → Int32 → Mem → Option (Int32 × Mem)) (kx117 : Int32 → Int32 → Int32 → Mem → Option (Int32 × Mem)) (v1 : Int32) (v2 : Int32) (v3 : Int32) (a4 : Int32) (a5 : Int32) (a6 : Int32) (a7 : Int32) (a8 : Int32) (M : Mem) : Option (Int32 × Mem) :=
  (F10_tellOf_b81 kh kx117 v1 v2 v3) a4 a5 a6 a7 a8 (0 : Int32) M
noncomputable def F10_tellOf_b76 (kh : Int32 → Int32 → Int32 → Int32 → Mem → Option (Int32 × Mem)) (kx117 : Int32 → Int32 → Int32 → Mem → Option (Int32 × Mem)) (v1 : Int32) (v2 : Int32) (v3 : Int32) (a4 : Int32) (a5 : Int32) (a6 : Int32) (a7 : Int32) (a8 : Int32) (M : Mem) : Option (Int32 × Mem) :=
  (F10_tellOf_b81 kh kx117 v1 v2 v3) a4 a5 a6 a7 a8 (1 : Int32) M
noncomputable def F10_tellOf_p22 (kh : Int32 → Int32 → Int32 → Int32 → Mem → Option (Int32 × Mem)) (kx117 : Int32 → Int32 → Int32 → Mem → Option (Int32 × Mem)) (v1 : Int32) (v2 : Int32) (v3 : Int32) (a4 : Int32) (a5 : Int32) (a6 : Int32) (a7 : Int32) (M : Mem) : Option (Int32 × Mem) :=
  (if (M 0 7) ≤ a7 then kx117 a4 a5 a6 M else (ck (((8 : Int32) * v1) + (1 : Int32)) 64 (lt (mset M 8 (((8 : Int32) * v1) + (1 : Int32)).toNatClampNeg a7) (fun M9 => ((F10_livesOne v1 M9).bind (fun q10 => ((F10_heardAt v1 v2 q10).bind (fun q11 => (if q11 = (-1 : Int32) then (F10_tellOf_b80 kh kx117 v1 v2 v3) a4 a5 a6 a7 q11 q10 else (if a6 = (-1 : Int32) then (F10_tellOf_b76 kh kx117 v1 v2 v3) a4 a5 a6 a7 q11 q10 else (if a6 ≤ q11 then (F10_tellOf_b80 kh kx117 v1 v2 v3) a4 a5 a6 a7 q11 q10 else (F10_tellOf_b76 kh kx117 v1 v2 v3) a4 a5 a6 a7 q11 q10)))))))))))
noncomputable def F10_tellOf_h22 (kx117 : Int32 → Int32 → Int32 → Mem → Option (Int32 × Mem)) (v1 : Int32) (v2 : Int32) (v3 : Int32) : Nat → Int32 → Int32 → Int32 → Int32 → Mem → Option (Int32 × Mem)
  | 0, _, _, _, _, _ => none
  | n + 1, a4, a5, a6, a7, M => F10_tellOf_p22 (F10_tellOf_h22 kx117 v1 v2 v3 n) kx117 v1 v2 v3 a4 a5 a6 a7 M
noncomputable def F10_tellOf (v1 : Int32) (v2 : Int32) (v3 : Int32) (mm : Mem) : Option (Int32 × Mem) :=
  (ck (((8 : Int32) * v1) + (1 : Int32)) 64 ((F10_tellOf_h22 (F10_tellOf_b117 v1 v2 v3) v1 v2 v3 FU) (mm 8 (((8 : Int32) * v1) + (1 : Int32)).toNatClampNeg) (-1 : Int32) (-1 : Int32) (0 : Int32) mm))
set_option maxHeartbeats 4000000 in
set_option maxRecDepth 100000 in
theorem kX10_tellOf (l : Launch) (g : GG) (v1 : Int32) (v2 : Int32) (v3 : Int32) (mc mm : Mem) (q : Int32 × Mem) (hF : F10_tellOf v1 v2 v3 mm = some q) : KI l yX10_tellOf cX10_tellOf 10 .int 5 118 g [.ref (g.1 108), .int v1, .int v2, .int v3] mc mm q.1 (mc, q.2) := by
  intro sz
  refine x_start (Qc := fun z => QI g z q.1 (mc, q.2)) (by decide +kernel) (Nat.le_of_ble_eq_true rfl) ?_ sz
  intro p e s m args below meth c ls Z hr hlk hP hl
  have hx := Z.1.1
  have hb := Z.1.2.1
  have hown := Z.1.2.2.2.1
  have hts := Z.1.2.2.2.2
  have hS : va_S (AA g s.heap.size) s.heap s.heap [] := va_S.rf
  have hl : lv_has ls 10 [(0, .ref (g.1 108)), (1, .int v1), (2, .int v2), (3, .int v3)] := hl
  unfold F10_tellOf at hF
  have hb117 : ∀ (a4 : Int32) (a5 : Int32) (a6 : Int32) (M : Mem), F10_tellOf_b117 v1 v2 v3 a4 a5 a6 M = some q → ∀ (H : Heap) (locs : List Loc) (ls : Array Slot), lv_has ls 10 [(0, .ref (g.1 108)), (1, .int v1), (3, .int v3), (4, .int a4), (5, .int a5), (6, .int a6)] → va_P g.2.2.1 vwCl (wL g mc M) H → va_S (AA g s.heap.size) s.heap H locs → W p l e { frames := 5, cells := 0, slots := 0, locals := 118 } s m args below meth c H locs 0 0 (MQ below (QI g s.heap.size q.1 (mc, q.2)) args s 0 0 (AA g s.heap.size)) (F0 m 117 ls []) := by
    intro a4 a5 a6 M hF H locs ls hl hP hS
    unfold F10_tellOf_b117 at hF
    refine lv_aload_n hx hb dX10_tellOf_117 rfl (lv_at hl 0 rfl) ?_
    refine gf10_10 Z hP wd_6_11 dX10_tellOf_118 ?_
    refine lv_bipush (v := (8 : Int32)) hx hb dX10_tellOf_121 bp_8 ?_
    refine lv_iload_n hx hb dX10_tellOf_123 rfl (lv_at hl 1 rfl) ?_
    refine lv_imul hx hb dX10_tellOf_124 ?_
    refine lv_iconst (v := (1 : Int32)) hx hb dX10_tellOf_125 ic_1 ?_
    refine lv_iadd hx hb dX10_tellOf_126 ?_
    refine lv_iload hx hb dX10_tellOf_127 (lv_at hl 3 rfl) ?_
    obtain ⟨hi7, hF⟩ := ck_ok hF
    refine rM_st Z hP hS 64 8 (by decide +kernel) hi7 dX10_tellOf_129 (fun H locs hP hS => ?_)
    refine lv_iload_n hx hb dX10_tellOf_130 rfl (lv_at hl 2 rfl) ?_
    refine lv_if_ne (tgt := 139) hx hb dX10_tellOf_131 rfl (fun hc => ?_) (fun hc => ?_)
    · have hF := (if_neg hc).symm.trans hF
      refine lv_iload hx hb dX10_tellOf_139 (lv_at hl 5 rfl) ?_
      exact ret_IWM Z hr hlk hP hS hF dX10_tellOf_141
    · have hF := (if_pos hc).symm.trans hF
      refine lv_iload hx hb dX10_tellOf_134 (lv_at hl 4 rfl) ?_
      refine lv_goto (tgt := 141) hx hb dX10_tellOf_136 rfl ?_
      exact ret_IWM Z hr hlk hP hS hF dX10_tellOf_141
  have hL22 : ∀ (kx117 : Int32 → Int32 → Int32 → Mem → Option (Int32 × Mem)), (∀ (a4 : Int32) (a5 : Int32) (a6 : Int32) (M : Mem), kx117 a4 a5 a6 M = some q → ∀ (H : Heap) (locs : List Loc) (ls : Array Slot), lv_has ls 10 [(0, .ref (g.1 108)), (1, .int v1), (3, .int v3), (4, .int a4), (5, .int a5), (6, .int a6)] → va_P g.2.2.1 vwCl (wL g mc M) H → va_S (AA g s.heap.size) s.heap H locs → W p l e { frames := 5, cells := 0, slots := 0, locals := 118 } s m args below meth c H locs 0 0 (MQ below (QI g s.heap.size q.1 (mc, q.2)) args s 0 0 (AA g s.heap.size)) (F0 m 117 ls [])) → ∀ n : Nat, ∀ (a4 : Int32) (a5 : Int32) (a6 : Int32) (a7 : Int32) (M : Mem), F10_tellOf_h22 kx117 v1 v2 v3 n a4 a5 a6 a7 M = some q → ∀ (H : Heap) (locs : List Loc) (ls : Array Slot), lv_has ls 10 [(0, .ref (g.1 108)), (1, .int v1), (2, .int v2), (3, .int v3), (4, .int a4), (5, .int a5), (6, .int a6), (7, .int a7)] → va_P g.2.2.1 vwCl (wL g mc M) H → va_S (AA g s.heap.size) s.heap H locs → W p l e { frames := 5, cells := 0, slots := 0, locals := 118 } s m args below meth c H locs 0 0 (MQ below (QI g s.heap.size q.1 (mc, q.2)) args s 0 0 (AA g s.heap.size)) (F0 m 22 ls []) := by
    intro kx117 hx117 n
    induction n with
    | zero => intro a4 a5 a6 a7 M hF H locs ls hl hP hS; exact absurd hF (fun z => nomatch (show (none : Option _) = some q from z))
    | succ n ih =>
      generalize hkh : F10_tellOf_h22 kx117 v1 v2 v3 n = kh at ih
      have hb109 : ∀ (a4 : Int32) (a5 : Int32) (a7 : Int32) (s0 : Int32) (M : Mem), F10_tellOf_b109 kh kx117 v1 v2 v3 a4 a5 a7 s0 M = some q → ∀ (H : Heap) (locs : List Loc) (ls : Array Slot), lv_has ls 10 [(0, .ref (g.1 108)), (1, .int v1), (2, .int v2), (3, .int v3), (4, .int a4), (5, .int a5), (7, .int a7)] → va_P g.2.2.1 vwCl (wL g mc M) H → va_S (AA g s.heap.size) s.heap H locs → W p l e { frames := 5, cells := 0, slots := 0, locals := 118 } s m args below meth c H locs 0 0 (MQ below (QI g s.heap.size q.1 (mc, q.2)) args s 0 0 (AA g s.heap.size)) (F0 m 109 ls [.int s0]) := by
        intro a4 a5 a7 s0 M hF H locs ls hl hP hS
        unfold F10_tellOf_b109 at hF
        refine lv_istore (lv' := [(6, .int s0), (0, .ref (g.1 108)), (1, .int v1), (2, .int v2), (3, .int v3), (4, .int a4), (5, .int a5), (7, .int a7)]) hx hb dX10_tellOf_109 hl (Nat.le_of_ble_eq_true rfl) rfl (fun ls hl => ?_)
        refine lv_iinc (lv' := [(7, .int (a7 + (1 : Int32))), (6, .int s0), (0, .ref (g.1 108)), (1, .int v1), (2, .int v2), (3, .int v3), (4, .int a4), (5, .int a5)]) (v := (a7 + (1 : Int32))) hx hb dX10_tellOf_111 hl (k := 7) rfl (io_1 _) (Nat.le_of_ble_eq_true rfl) rfl (fun ls hl => ?_)
        refine lv_goto (tgt := 22) hx hb dX10_tellOf_114 rfl ?_
        exact ih _ _ _ _ _ hF _ _ _ (lv_sub hl [2, 3, 4, 5, 6, 7, 1, 0] rfl) hP hS
      have hb95 : ∀ (a4 : Int32) (a6 : Int32) (a7 : Int32) (a8 : Int32) (a9 : Int32) (s0 : Int32) (M : Mem), F10_tellOf_b95 kh kx117 v1 v2 v3 a4 a6 a7 a8 a9 s0 M = some q → ∀ (H : Heap) (locs : List Loc) (ls : Array Slot), lv_has ls 10 [(0, .ref (g.1 108)), (1, .int v1), (2, .int v2), (3, .int v3), (4, .int a4), (6, .int a6), (7, .int a7), (8, .int a8), (9, .int a9)] → va_P g.2.2.1 vwCl (wL g mc M) H → va_S (AA g s.heap.size) s.heap H locs → W p l e { frames := 5, cells := 0, slots := 0, locals := 118 } s m args below meth c H locs 0 0 (MQ below (QI g s.heap.size q.1 (mc, q.2)) args s 0 0 (AA g s.heap.size)) (F0 m 95 ls [.int s0]) := by
        intro a4 a6 a7 a8 a9 s0 M hF H locs ls hl hP hS
        unfold F10_tellOf_b95 at hF
        refine lv_istore (lv' := [(5, .int s0), (0, .ref (g.1 108)), (1, .int v1), (2, .int v2), (3, .int v3), (4, .int a4), (6, .int a6), (7, .int a7), (8, .int a8), (9, .int a9)]) hx hb dX10_tellOf_95 hl (Nat.le_of_ble_eq_true rfl) rfl (fun ls hl => ?_)
        refine lv_iload hx hb dX10_tellOf_97 (lv_at hl 9 rfl) ?_
        refine lv_if_eq (tgt := 107) hx hb dX10_tellOf_99 rfl (fun hc => ?_) (fun hc => ?_)
        · have hF := (if_pos hc).symm.trans hF
          refine lv_iload hx hb dX10_tellOf_107 (lv_at hl 6 rfl) ?_
          exact hb109 _ _ _ _ _ hF _ _ _ (lv_sub hl [1, 2, 3, 4, 5, 0, 7] rfl) hP hS
        · have hF := (if_neg hc).symm.trans hF
          refine lv_iload hx hb dX10_tellOf_102 (lv_at hl 8 rfl) ?_
          refine lv_goto (tgt := 109) hx hb dX10_tellOf_104 rfl ?_
          exact hb109 _ _ _ _ _ hF _ _ _ (lv_sub hl [1, 2, 3, 4, 5, 0, 7] rfl) hP hS
      have hb81 : ∀ (a4 : Int32) (a5 : Int32) (a6 : Int32) (a7 : Int32) (a8 : Int32) (s0 : Int32) (M : Mem), F10_tellOf_b81 kh kx117 v1 v2 v3 a4 a5 a6 a7 a8 s0 M = some q → ∀ (H : Heap) (locs : List Loc) (ls : Array Slot), lv_has ls 10 [(0, .ref (g.1 108)), (1, .int v1), (2, .int v2), (3, .int v3), (4, .int a4), (5, .int a5), (6, .int a6), (7, .int a7), (8, .int a8)] → va_P g.2.2.1 vwCl (wL g mc M) H → va_S (AA g s.heap.size) s.heap H locs → W p l e { frames := 5, cells := 0, slots := 0, locals := 118 } s m args below meth c H locs 0 0 (MQ below (QI g s.heap.size q.1 (mc, q.2)) args s 0 0 (AA g s.heap.size)) (F0 m 81 ls [.int s0]) := by
        intro a4 a5 a6 a7 a8 s0 M hF H locs ls hl hP hS
        unfold F10_tellOf_b81 at hF
        refine lv_istore (lv' := [(9, .int s0), (0, .ref (g.1 108)), (1, .int v1), (2, .int v2), (3, .int v3), (4, .int a4), (5, .int a5), (6, .int a6), (7, .int a7), (8, .int a8)]) hx hb dX10_tellOf_81 hl (Nat.le_of_ble_eq_true rfl) rfl (fun ls hl => ?_)
        refine lv_iload hx hb dX10_tellOf_83 (lv_at hl 0 rfl) ?_
        refine lv_if_eq (tgt := 93) hx hb dX10_tellOf_85 rfl (fun hc => ?_) (fun hc => ?_)
        · have hF := (if_pos hc).symm.trans hF
          refine lv_iload hx hb dX10_tellOf_93 (lv_at hl 6 rfl) ?_
          exact hb95 _ _ _ _ _ _ _ hF _ _ _ (lv_sub hl [1, 2, 3, 4, 5, 7, 8, 9, 0] rfl) hP hS
        · have hF := (if_neg hc).symm.trans hF
          refine lv_iload hx hb dX10_tellOf_88 (lv_at hl 8 rfl) ?_
          refine lv_goto (tgt := 95) hx hb dX10_tellOf_90 rfl ?_
          exact hb95 _ _ _ _ _ _ _ hF _ _ _ (lv_sub hl [1, 2, 3, 4, 5, 7, 8, 9, 0] rfl) hP hS
      have hb80 : ∀ (a4 : Int32) (a5 : Int32) (a6 : Int32) (a7 : Int32) (a8 : Int32) (M : Mem), F10_tellOf_b80 kh kx117 v1 v2 v3 a4 a5 a6 a7 a8 M = some q → ∀ (H : Heap) (locs : List Loc) (ls : Array Slot), lv_has ls 10 [(0, .ref (g.1 108)), (1, .int v1), (2, .int v2), (3, .int v3), (4, .int a4), (5, .int a5), (6, .int a6), (7, .int a7), (8, .int a8)] → va_P g.2.2.1 vwCl (wL g mc M) H → va_S (AA g s.heap.size) s.heap H locs → W p l e { frames := 5, cells := 0, slots := 0, locals := 118 } s m args below meth c H locs 0 0 (MQ below (QI g s.heap.size q.1 (mc, q.2)) args s 0 0 (AA g s.heap.size)) (F0 m 80 ls []) := by
        intro a4 a5 a6 a7 a8 M hF H locs ls hl hP hS
        unfold F10_tellOf_b80 at hF
        refine lv_iconst (v := (0 : Int32)) hx hb dX10_tellOf_80 ic_0 ?_
        exact hb81 _ _ _ _ _ _ _ hF _ _ _ (lv_sub hl [0, 1, 2, 3, 4, 5, 6, 7, 8] rfl) hP hS
      have hb76 : ∀ (a4 : Int32) (a5 : Int32) (a6 : Int32) (a7 : Int32) (a8 : Int32) (M : Mem), F10_tellOf_b76 kh kx117 v1 v2 v3 a4 a5 a6 a7 a8 M = some q → ∀ (H : Heap) (locs : List Loc) (ls : Array Slot), lv_has ls 10 [(0, .ref (g.1 108)), (1, .int v1), (2, .int v2), (3, .int v3), (4, .int a4), (5, .int a5), (6, .int a6), (7, .int a7), (8, .int a8)] → va_P g.2.2.1 vwCl (wL g mc M) H → va_S (AA g s.heap.size) s.heap H locs → W p l e { frames := 5, cells := 0, slots := 0, locals := 118 } s m args below meth c H locs 0 0 (MQ below (QI g s.heap.size q.1 (mc, q.2)) args s 0 0 (AA g s.heap.size)) (F0 m 76 ls []) := by
        intro a4 a5 a6 a7 a8 M hF H locs ls hl hP hS
        unfold F10_tellOf_b76 at hF
        refine lv_iconst (v := (1 : Int32)) hx hb dX10_tellOf_76 ic_1 ?_
        refine lv_goto (tgt := 81) hx hb dX10_tellOf_77 rfl ?_
        exact hb81 _ _ _ _ _ _ _ hF _ _ _ (lv_sub hl [0, 1, 2, 3, 4, 5, 6, 7, 8] rfl) hP hS
      intro a4 a5 a6 a7 M hF H locs ls hl hP hS
      have hF : F10_tellOf_p22 (F10_tellOf_h22 kx117 v1 v2 v3 n) kx117 v1 v2 v3 a4 a5 a6 a7 M = some q := hF
      rw [hkh] at hF
      unfold F10_tellOf_p22 at hF
      refine lv_iload hx hb dX10_tellOf_22 (lv_at hl 7 rfl) ?_
      refine lv_aload_n hx hb dX10_tellOf_24 rfl (lv_at hl 0 rfl) ?_
      refine gf10_7 Z hP wd_14_19 dX10_tellOf_25 ?_
      refine lv_icmp_ge (tgt := 117) hx hb dX10_tellOf_28 rfl (fun hc => ?_) (fun hc => ?_)
      · have hF := (if_pos hc).symm.trans hF
        exact hx117 _ _ _ _ hF _ _ _ (lv_sub hl [0, 1, 3, 4, 5, 6] rfl) hP hS
      · have hF := (if_neg hc).symm.trans hF
        refine lv_aload_n hx hb dX10_tellOf_31 rfl (lv_at hl 0 rfl) ?_
        refine gf10_10 Z hP wd_6_11 dX10_tellOf_32 ?_
        refine lv_bipush (v := (8 : Int32)) hx hb dX10_tellOf_35 bp_8 ?_
        refine lv_iload_n hx hb dX10_tellOf_37 rfl (lv_at hl 1 rfl) ?_
        refine lv_imul hx hb dX10_tellOf_38 ?_
        refine lv_iconst (v := (1 : Int32)) hx hb dX10_tellOf_39 ic_1 ?_
        refine lv_iadd hx hb dX10_tellOf_40 ?_
        refine lv_iload hx hb dX10_tellOf_41 (lv_at hl 7 rfl) ?_
        obtain ⟨hi8, hF⟩ := ck_ok hF
        refine rM_st Z hP hS 64 8 (by decide +kernel) hi8 dX10_tellOf_43 (fun H locs hP hS => ?_)
        refine lv_aload_n hx hb dX10_tellOf_44 rfl (lv_at hl 0 rfl) ?_
        refine lv_iload_n hx hb dX10_tellOf_45 rfl (lv_at hl 1 rfl) ?_
        obtain ⟨M9, eM9, hF⟩ := lt_ok hF
        have hP : va_P g.2.2.1 vwCl (wL g mc M9) H := by rw [eM9]; exact hP
        obtain ⟨q10, hq10, hF⟩ := bd_ok hF
        refine xX10_livesOne Z hP hS hq10 wd_22_13 hl.1 (Nat.le_of_ble_eq_true rfl) ⟨Nat.le_of_ble_eq_true rfl, Nat.le_of_ble_eq_true rfl⟩ dX10_tellOf_46 (fun H locs hP hS => ?_)
        refine lv_aload_n hx hb dX10_tellOf_49 rfl (lv_at hl 0 rfl) ?_
        refine lv_iload_n hx hb dX10_tellOf_50 rfl (lv_at hl 1 rfl) ?_
        refine lv_iload_n hx hb dX10_tellOf_51 rfl (lv_at hl 2 rfl) ?_
        obtain ⟨q11, hq11, hF⟩ := bd_ok hF
        refine xX10_heardAt Z hP hS hq11 wd_25_10 hl.1 (Nat.le_of_ble_eq_true rfl) ⟨Nat.le_of_ble_eq_true rfl, Nat.le_of_ble_eq_true rfl⟩ dX10_tellOf_52 (fun H locs hP hS => ?_)
        refine lv_istore (lv' := [(8, .int q11), (0, .ref (g.1 108)), (1, .int v1), (2, .int v2), (3, .int v3), (4, .int a4), (5, .int a5), (6, .int a6), (7, .int a7)]) hx hb dX10_tellOf_55 hl (Nat.le_of_ble_eq_true rfl) rfl (fun ls hl => ?_)
        refine lv_iload hx hb dX10_tellOf_57 (lv_at hl 0 rfl) ?_
        refine lv_iconst (v := (-1 : Int32)) hx hb dX10_tellOf_59 ic_m1 ?_
        refine lv_icmp_eq (tgt := 80) hx hb dX10_tellOf_60 rfl (fun hc => ?_) (fun hc => ?_)
        · have hF := (if_pos hc).symm.trans hF
          exact hb80 _ _ _ _ _ _ hF _ _ _ (lv_sub hl [1, 2, 3, 4, 5, 6, 7, 8, 0] rfl) hP hS
        · have hF := (if_neg hc).symm.trans hF
          refine lv_iload hx hb dX10_tellOf_63 (lv_at hl 7 rfl) ?_
          refine lv_iconst (v := (-1 : Int32)) hx hb dX10_tellOf_65 ic_m1 ?_
          refine lv_icmp_eq (tgt := 76) hx hb dX10_tellOf_66 rfl (fun hc => ?_) (fun hc => ?_)
          · have hF := (if_pos hc).symm.trans hF
            exact hb76 _ _ _ _ _ _ hF _ _ _ (lv_sub hl [1, 2, 3, 4, 5, 6, 7, 8, 0] rfl) hP hS
          · have hF := (if_neg hc).symm.trans hF
            refine lv_iload hx hb dX10_tellOf_69 (lv_at hl 0 rfl) ?_
            refine lv_iload hx hb dX10_tellOf_71 (lv_at hl 7 rfl) ?_
            refine lv_icmp_ge (tgt := 80) hx hb dX10_tellOf_73 rfl (fun hc => ?_) (fun hc => ?_)
            · have hF := (if_pos hc).symm.trans hF
              exact hb80 _ _ _ _ _ _ hF _ _ _ (lv_sub hl [1, 2, 3, 4, 5, 6, 7, 8, 0] rfl) hP hS
            · have hF := (if_neg hc).symm.trans hF
              exact hb76 _ _ _ _ _ _ hF _ _ _ (lv_sub hl [1, 2, 3, 4, 5, 6, 7, 8, 0] rfl) hP hS
  refine lv_aload_n hx hb dX10_tellOf_0 rfl (lv_at hl 0 rfl) ?_
  refine gf10_10 Z hP wd_6_11 dX10_tellOf_1 ?_
  refine lv_bipush (v := (8 : Int32)) hx hb dX10_tellOf_4 bp_8 ?_
  refine lv_iload_n hx hb dX10_tellOf_6 rfl (lv_at hl 1 rfl) ?_
  refine lv_imul hx hb dX10_tellOf_7 ?_
  refine lv_iconst (v := (1 : Int32)) hx hb dX10_tellOf_8 ic_1 ?_
  refine lv_iadd hx hb dX10_tellOf_9 ?_
  obtain ⟨hi12, hF⟩ := ck_ok hF
  refine rM_ld Z hP 64 8 (by decide +kernel) hi12 dX10_tellOf_10 ?_
  refine lv_istore (lv' := [(4, .int (mm 8 (((8 : Int32) * v1) + (1 : Int32)).toNatClampNeg)), (0, .ref (g.1 108)), (1, .int v1), (2, .int v2), (3, .int v3)]) hx hb dX10_tellOf_11 hl (Nat.le_of_ble_eq_true rfl) rfl (fun ls hl => ?_)
  refine lv_iconst (v := (-1 : Int32)) hx hb dX10_tellOf_13 ic_m1 ?_
  refine lv_istore (lv' := [(5, .int (-1 : Int32)), (4, .int (mm 8 (((8 : Int32) * v1) + (1 : Int32)).toNatClampNeg)), (0, .ref (g.1 108)), (1, .int v1), (2, .int v2), (3, .int v3)]) hx hb dX10_tellOf_14 hl (Nat.le_of_ble_eq_true rfl) rfl (fun ls hl => ?_)
  refine lv_iconst (v := (-1 : Int32)) hx hb dX10_tellOf_16 ic_m1 ?_
  refine lv_istore (lv' := [(6, .int (-1 : Int32)), (5, .int (-1 : Int32)), (4, .int (mm 8 (((8 : Int32) * v1) + (1 : Int32)).toNatClampNeg)), (0, .ref (g.1 108)), (1, .int v1), (2, .int v2), (3, .int v3)]) hx hb dX10_tellOf_17 hl (Nat.le_of_ble_eq_true rfl) rfl (fun ls hl => ?_)
  refine lv_iconst (v := (0 : Int32)) hx hb dX10_tellOf_19 ic_0 ?_
  refine lv_istore (lv' := [(7, .int (0 : Int32)), (6, .int (-1 : Int32)), (5, .int (-1 : Int32)), (4, .int (mm 8 (((8 : Int32) * v1) + (1 : Int32)).toNatClampNeg)), (0, .ref (g.1 108)), (1, .int v1), (2, .int v2), (3, .int v3)]) hx hb dX10_tellOf_20 hl (Nat.le_of_ble_eq_true rfl) rfl (fun ls hl => ?_)
  exact (hL22 _ hb117 FU) _ _ _ _ _ hF _ _ _ (lv_sub hl [4, 5, 6, 7, 3, 2, 1, 0] rfl) hP hS
theorem xX10_tellOf {p : Program} {l : Launch} {e : Env} {R : Room} {s : State} {m : MethodId} {args : Array Value} {below : List Frame} {meth : Method} {c : Code} {H : Heap} {locs : List Loc} {Q : State → Prop} {cc : ByteArray} {nL : Nat} {own : String} {g : GG} {pc index : Nat} {ls : Array Slot} {rest : List Value} {mc mm : Mem} (Z : ZZ p s m args c cc nL own g) (hP : va_P g.2.2.1 vwCl (wL g mc mm) H) (hS : va_S (AA g s.heap.size) s.heap H locs) {v1 : Int32} {v2 : Int32} {v3 : Int32} {q : Int32 × Mem} (hq : F10_tellOf v1 v2 v3 mm = some q) (hlk : Cond.methodLink own index yX10_tellOf ∈ wsL_law) (hsz : ls.size = nL) (hro : (rest.map fun v => v.category).sum ≤ 8) (hR : 5 + 1 ≤ R.frames ∧ 8 + (10 + 11) + 118 ≤ R.locals) (hdg : decode cc pc = .ok (.invokevirtual index, 3)) (kk : ∀ (H : Heap) (locs : List Loc), va_P g.2.2.1 vwCl (wL g mc q.2) H → va_S (AA g s.heap.size) s.heap H locs → W p l e R s m args below meth c H locs 0 0 Q (F0 m (pc + 3) ls (.int q.1 :: rest))) : W p l e R s m args below meth c H locs 0 0 Q (F0 m pc ls (.int v3 :: .int v2 :: .int v1 :: .ref (g.1 108) :: rest)) :=
  x_VI Z hP hS (kX10_tellOf l g v1 v2 v3 mc mm q hq) (mO) (ci := 10) (by decide) rfl rfl mf_X10_tellOf mv_X10_tellOf hlk rfl rfl hsz hro hR hdg kk
theorem dX10_tell_0 : decode cX10_tell 0 = .ok (.aload_n 0, 1) := by decide +kernel
theorem dX10_tell_1 : decode cX10_tell 1 = .ok (.invokevirtual 236, 3) := by decide +kernel
theorem dX10_tell_4 : decode cX10_tell 4 = .ok (.aload_n 0, 1) := by decide +kernel
theorem dX10_tell_5 : decode cX10_tell 5 = .ok (.iload_n 1, 1) := by decide +kernel
theorem dX10_tell_6 : decode cX10_tell 6 = .ok (.invokevirtual 166, 3) := by decide +kernel
theorem dX10_tell_9 : decode cX10_tell 9 = .ok (.ifCond .eq 27, 3) := by decide +kernel
theorem dX10_tell_12 : decode cX10_tell 12 = .ok (.iload_n 2, 1) := by decide +kernel
theorem dX10_tell_13 : decode cX10_tell 13 = .ok (.invokestatic 178, 3) := by decide +kernel
theorem dX10_tell_16 : decode cX10_tell 16 = .ok (.ifCond .eq 20, 3) := by decide +kernel
theorem dX10_tell_19 : decode cX10_tell 19 = .ok (.iload_n 3, 1) := by decide +kernel
theorem dX10_tell_20 : decode cX10_tell 20 = .ok (.invokestatic 111, 3) := by decide +kernel
theorem dX10_tell_23 : decode cX10_tell 23 = .ok (.ifCond .eq 13, 3) := by decide +kernel
theorem dX10_tell_26 : decode cX10_tell 26 = .ok (.aload_n 0, 1) := by decide +kernel
theorem dX10_tell_27 : decode cX10_tell 27 = .ok (.iload_n 1, 1) := by decide +kernel
theorem dX10_tell_28 : decode cX10_tell 28 = .ok (.iload_n 2, 1) := by decide +kernel
theorem dX10_tell_29 : decode cX10_tell 29 = .ok (.iload_n 3, 1) := by decide +kernel
theorem dX10_tell_30 : decode cX10_tell 30 = .ok (.invokevirtual 259, 3) := by decide +kernel
theorem dX10_tell_33 : decode cX10_tell 33 = .ok (.goto 5, 3) := by decide +kernel
theorem dX10_tell_36 : decode cX10_tell 36 = .ok (.bipush (-2), 2) := by decide +kernel
theorem dX10_tell_38 : decode cX10_tell 38 = .ok (.ireturn, 1) := by decide +kernel
noncomputable def F10_tell_b36 (v1 : Int32) (v2 : Int32) (v3 : Int32) (M : Mem) : Option (Int32 × Mem) :=
  some ((-2 : Int32), M)
noncomputable def F10_tell (v1 : Int32) (v2 : Int32) (v3 : Int32) (mm : Mem) : Option (Int32 × Mem) :=
  ((F10_find mm).bind (fun q6 => ((F10_isSaying v1 q6).bind (fun q7 => (if q7 = (0 : Int32) then (F10_tell_b36 v1 v2 v3) q6 else ((F10_isEight v2).bind (fun q8 => (if q8 = (0 : Int32) then (F10_tell_b36 v1 v2 v3) q6 else ((F10_isTwo v3).bind (fun q9 => (if q9 = (0 : Int32) then (F10_tell_b36 v1 v2 v3) q6 else ((F10_tellOf v1 v2 v3 q6).bind (fun q10 => (some (q10.1, q10.2)))))))))))))))
set_option maxHeartbeats 4000000 in
set_option maxRecDepth 100000 in
theorem kX10_tell (l : Launch) (g : GG) (v1 : Int32) (v2 : Int32) (v3 : Int32) (mc mm : Mem) (q : Int32 × Mem) (hF : F10_tell v1 v2 v3 mm = some q) : KI l yX10_tell cX10_tell 4 .int 7 159 g [.ref (g.1 108), .int v1, .int v2, .int v3] mc mm q.1 (mc, q.2) := by
  intro sz
  refine x_start (Qc := fun z => QI g z q.1 (mc, q.2)) (by decide +kernel) (Nat.le_of_ble_eq_true rfl) ?_ sz
  intro p e s m args below meth c ls Z hr hlk hP hl
  have hx := Z.1.1
  have hb := Z.1.2.1
  have hown := Z.1.2.2.2.1
  have hts := Z.1.2.2.2.2
  have hS : va_S (AA g s.heap.size) s.heap s.heap [] := va_S.rf
  have hl : lv_has ls 4 [(0, .ref (g.1 108)), (1, .int v1), (2, .int v2), (3, .int v3)] := hl
  unfold F10_tell at hF
  have hb36 : ∀  (M : Mem), F10_tell_b36 v1 v2 v3 M = some q → ∀ (H : Heap) (locs : List Loc) (ls : Array Slot), lv_has ls 4 [] → va_P g.2.2.1 vwCl (wL g mc M) H → va_S (AA g s.heap.size) s.heap H locs → W p l e { frames := 7, cells := 0, slots := 0, locals := 159 } s m args below meth c H locs 0 0 (MQ below (QI g s.heap.size q.1 (mc, q.2)) args s 0 0 (AA g s.heap.size)) (F0 m 36 ls []) := by
    intro M hF H locs ls hl hP hS
    unfold F10_tell_b36 at hF
    refine lv_bipush (v := (-2 : Int32)) hx hb dX10_tell_36 bp_m2 ?_
    exact ret_IWM Z hr hlk hP hS hF dX10_tell_38
  refine lv_aload_n hx hb dX10_tell_0 rfl (lv_at hl 0 rfl) ?_
  obtain ⟨q6, hq6, hF⟩ := bd_ok hF
  refine xX10_find Z hP hS hq6 wd_22_5 hl.1 (Nat.le_of_ble_eq_true rfl) ⟨Nat.le_of_ble_eq_true rfl, Nat.le_of_ble_eq_true rfl⟩ dX10_tell_1 (fun H locs hP hS => ?_)
  refine lv_aload_n hx hb dX10_tell_4 rfl (lv_at hl 0 rfl) ?_
  refine lv_iload_n hx hb dX10_tell_5 rfl (lv_at hl 1 rfl) ?_
  obtain ⟨q7, hq7, hF⟩ := bd_ok hF
  refine xX10_isSaying Z hP hS hq7 wd_17_3 hl.1 (Nat.le_of_ble_eq_true rfl) ⟨Nat.le_of_ble_eq_true rfl, Nat.le_of_ble_eq_true rfl⟩ dX10_tell_6 (fun H locs hP hS => ?_)
  refine lv_if_eq (tgt := 36) hx hb dX10_tell_9 rfl (fun hc => ?_) (fun hc => ?_)
  · have hF := (if_pos hc).symm.trans hF
    exact hb36 _ hF _ _ _ (lv_sub hl [] rfl) hP hS
  · have hF := (if_neg hc).symm.trans hF
    refine lv_iload_n hx hb dX10_tell_12 rfl (lv_at hl 2 rfl) ?_
    obtain ⟨q8, hq8, hF⟩ := bd_ok hF
    refine xX10_isEight Z hP hS hq8 wd_18_9 hl.1 (Nat.le_of_ble_eq_true rfl) ⟨Nat.le_of_ble_eq_true rfl, Nat.le_of_ble_eq_true rfl⟩ dX10_tell_13 (fun H locs hP hS => ?_)
    refine lv_if_eq (tgt := 36) hx hb dX10_tell_16 rfl (fun hc => ?_) (fun hc => ?_)
    · have hF := (if_pos hc).symm.trans hF
      exact hb36 _ hF _ _ _ (lv_sub hl [] rfl) hP hS
    · have hF := (if_neg hc).symm.trans hF
      refine lv_iload_n hx hb dX10_tell_19 rfl (lv_at hl 3 rfl) ?_
      obtain ⟨q9, hq9, hF⟩ := bd_ok hF
      refine xX10_isTwo Z hP hS hq9 wd_13_5 hl.1 (Nat.le_of_ble_eq_true rfl) ⟨Nat.le_of_ble_eq_true rfl, Nat.le_of_ble_eq_true rfl⟩ dX10_tell_20 (fun H locs hP hS => ?_)
      refine lv_if_eq (tgt := 36) hx hb dX10_tell_23 rfl (fun hc => ?_) (fun hc => ?_)
      · have hF := (if_pos hc).symm.trans hF
        exact hb36 _ hF _ _ _ (lv_sub hl [] rfl) hP hS
      · have hF := (if_neg hc).symm.trans hF
        refine lv_aload_n hx hb dX10_tell_26 rfl (lv_at hl 0 rfl) ?_
        refine lv_iload_n hx hb dX10_tell_27 rfl (lv_at hl 1 rfl) ?_
        refine lv_iload_n hx hb dX10_tell_28 rfl (lv_at hl 2 rfl) ?_
        refine lv_iload_n hx hb dX10_tell_29 rfl (lv_at hl 3 rfl) ?_
        obtain ⟨q10, hq10, hF⟩ := bd_ok hF
        refine xX10_tellOf Z hP hS hq10 wd_27_22 hl.1 (Nat.le_of_ble_eq_true rfl) ⟨Nat.le_of_ble_eq_true rfl, Nat.le_of_ble_eq_true rfl⟩ dX10_tell_30 (fun H locs hP hS => ?_)
        refine lv_goto (tgt := 38) hx hb dX10_tell_33 rfl ?_
        exact ret_IWM Z hr hlk hP hS hF dX10_tell_38
theorem xX10_tell {p : Program} {l : Launch} {e : Env} {R : Room} {s : State} {m : MethodId} {args : Array Value} {below : List Frame} {meth : Method} {c : Code} {H : Heap} {locs : List Loc} {Q : State → Prop} {cc : ByteArray} {nL : Nat} {own : String} {g : GG} {pc index : Nat} {ls : Array Slot} {rest : List Value} {mc mm : Mem} (Z : ZZ p s m args c cc nL own g) (hP : va_P g.2.2.1 vwCl (wL g mc mm) H) (hS : va_S (AA g s.heap.size) s.heap H locs) {v1 : Int32} {v2 : Int32} {v3 : Int32} {q : Int32 × Mem} (hq : F10_tell v1 v2 v3 mm = some q) (hlk : Cond.methodLink own index yX10_tell ∈ wsL_law) (hsz : ls.size = nL) (hro : (rest.map fun v => v.category).sum ≤ 8) (hR : 7 + 1 ≤ R.frames ∧ 8 + (4 + 11) + 159 ≤ R.locals) (hdg : decode cc pc = .ok (.invokevirtual index, 3)) (kk : ∀ (H : Heap) (locs : List Loc), va_P g.2.2.1 vwCl (wL g mc q.2) H → va_S (AA g s.heap.size) s.heap H locs → W p l e R s m args below meth c H locs 0 0 Q (F0 m (pc + 3) ls (.int q.1 :: rest))) : W p l e R s m args below meth c H locs 0 0 Q (F0 m pc ls (.int v3 :: .int v2 :: .int v1 :: .ref (g.1 108) :: rest)) :=
  x_VI Z hP hS (kX10_tell l g v1 v2 v3 mc mm q hq) (mO) (ci := 10) (by decide) rfl rfl mf_X10_tell mv_X10_tell hlk rfl rfl hsz hro hR hdg kk
theorem dX10_tossOf_0 : decode cX10_tossOf 0 = .ok (.iconst (-1), 1) := by decide +kernel
theorem dX10_tossOf_1 : decode cX10_tossOf 1 = .ok (.istore_n 3, 1) := by decide +kernel
theorem dX10_tossOf_2 : decode cX10_tossOf 2 = .ok (.iconst (-1), 1) := by decide +kernel
theorem dX10_tossOf_3 : decode cX10_tossOf 3 = .ok (.istore 4, 2) := by decide +kernel
theorem dX10_tossOf_5 : decode cX10_tossOf 5 = .ok (.iconst 0, 1) := by decide +kernel
theorem dX10_tossOf_6 : decode cX10_tossOf 6 = .ok (.istore 5, 2) := by decide +kernel
theorem dX10_tossOf_8 : decode cX10_tossOf 8 = .ok (.iload 5, 2) := by decide +kernel
theorem dX10_tossOf_10 : decode cX10_tossOf 10 = .ok (.bipush 40, 2) := by decide +kernel
theorem dX10_tossOf_12 : decode cX10_tossOf 12 = .ok (.aload_n 0, 1) := by decide +kernel
theorem dX10_tossOf_13 : decode cX10_tossOf 13 = .ok (.getfield 120, 3) := by decide +kernel
theorem dX10_tossOf_16 : decode cX10_tossOf 16 = .ok (.imul, 1) := by decide +kernel
theorem dX10_tossOf_17 : decode cX10_tossOf 17 = .ok (.if_icmp .ge 68, 3) := by decide +kernel
theorem dX10_tossOf_20 : decode cX10_tossOf 20 = .ok (.aload_n 0, 1) := by decide +kernel
theorem dX10_tossOf_21 : decode cX10_tossOf 21 = .ok (.iload 5, 2) := by decide +kernel
theorem dX10_tossOf_23 : decode cX10_tossOf 23 = .ok (.aload_n 0, 1) := by decide +kernel
theorem dX10_tossOf_24 : decode cX10_tossOf 24 = .ok (.getfield 120, 3) := by decide +kernel
theorem dX10_tossOf_27 : decode cX10_tossOf 27 = .ok (.idiv, 1) := by decide +kernel
theorem dX10_tossOf_28 : decode cX10_tossOf 28 = .ok (.putfield 77, 3) := by decide +kernel
theorem dX10_tossOf_31 : decode cX10_tossOf 31 = .ok (.aload_n 0, 1) := by decide +kernel
theorem dX10_tossOf_32 : decode cX10_tossOf 32 = .ok (.iload 5, 2) := by decide +kernel
theorem dX10_tossOf_34 : decode cX10_tossOf 34 = .ok (.aload_n 0, 1) := by decide +kernel
theorem dX10_tossOf_35 : decode cX10_tossOf 35 = .ok (.getfield 120, 3) := by decide +kernel
theorem dX10_tossOf_38 : decode cX10_tossOf 38 = .ok (.irem, 1) := by decide +kernel
theorem dX10_tossOf_39 : decode cX10_tossOf 39 = .ok (.putfield 194, 3) := by decide +kernel
theorem dX10_tossOf_42 : decode cX10_tossOf 42 = .ok (.aload_n 0, 1) := by decide +kernel
theorem dX10_tossOf_43 : decode cX10_tossOf 43 = .ok (.invokevirtual 233, 3) := by decide +kernel
theorem dX10_tossOf_46 : decode cX10_tossOf 46 = .ok (.aload_n 0, 1) := by decide +kernel
theorem dX10_tossOf_47 : decode cX10_tossOf 47 = .ok (.iload_n 1, 1) := by decide +kernel
theorem dX10_tossOf_48 : decode cX10_tossOf 48 = .ok (.invokevirtual 247, 3) := by decide +kernel
theorem dX10_tossOf_51 : decode cX10_tossOf 51 = .ok (.invokestatic 262, 3) := by decide +kernel
theorem dX10_tossOf_54 : decode cX10_tossOf 54 = .ok (.istore 6, 2) := by decide +kernel
theorem dX10_tossOf_56 : decode cX10_tossOf 56 = .ok (.iload 6, 2) := by decide +kernel
theorem dX10_tossOf_58 : decode cX10_tossOf 58 = .ok (.iload 4, 2) := by decide +kernel
theorem dX10_tossOf_60 : decode cX10_tossOf 60 = .ok (.if_icmp .le 8, 3) := by decide +kernel
theorem dX10_tossOf_63 : decode cX10_tossOf 63 = .ok (.iload 5, 2) := by decide +kernel
theorem dX10_tossOf_65 : decode cX10_tossOf 65 = .ok (.goto 4, 3) := by decide +kernel
theorem dX10_tossOf_68 : decode cX10_tossOf 68 = .ok (.iload_n 3, 1) := by decide +kernel
theorem dX10_tossOf_69 : decode cX10_tossOf 69 = .ok (.istore_n 3, 1) := by decide +kernel
theorem dX10_tossOf_70 : decode cX10_tossOf 70 = .ok (.iload 6, 2) := by decide +kernel
theorem dX10_tossOf_72 : decode cX10_tossOf 72 = .ok (.iload 4, 2) := by decide +kernel
theorem dX10_tossOf_74 : decode cX10_tossOf 74 = .ok (.invokestatic 265, 3) := by decide +kernel
theorem dX10_tossOf_77 : decode cX10_tossOf 77 = .ok (.istore 4, 2) := by decide +kernel
theorem dX10_tossOf_79 : decode cX10_tossOf 79 = .ok (.iinc 5 1, 3) := by decide +kernel
theorem dX10_tossOf_82 : decode cX10_tossOf 82 = .ok (.goto (-74), 3) := by decide +kernel
theorem dX10_tossOf_85 : decode cX10_tossOf 85 = .ok (.aload_n 0, 1) := by decide +kernel
theorem dX10_tossOf_86 : decode cX10_tossOf 86 = .ok (.iconst (-1), 1) := by decide +kernel
theorem dX10_tossOf_87 : decode cX10_tossOf 87 = .ok (.putfield 77, 3) := by decide +kernel
theorem dX10_tossOf_90 : decode cX10_tossOf 90 = .ok (.iload_n 3, 1) := by decide +kernel
theorem dX10_tossOf_91 : decode cX10_tossOf 91 = .ok (.iconst (-1), 1) := by decide +kernel
theorem dX10_tossOf_92 : decode cX10_tossOf 92 = .ok (.if_icmp .ne 7, 3) := by decide +kernel
theorem dX10_tossOf_95 : decode cX10_tossOf 95 = .ok (.iconst (-1), 1) := by decide +kernel
theorem dX10_tossOf_96 : decode cX10_tossOf 96 = .ok (.goto 32, 3) := by decide +kernel
theorem dX10_tossOf_99 : decode cX10_tossOf 99 = .ok (.iload_n 2, 1) := by decide +kernel
theorem dX10_tossOf_100 : decode cX10_tossOf 100 = .ok (.ifCond .ne 12, 3) := by decide +kernel
theorem dX10_tossOf_103 : decode cX10_tossOf 103 = .ok (.iload_n 3, 1) := by decide +kernel
theorem dX10_tossOf_104 : decode cX10_tossOf 104 = .ok (.aload_n 0, 1) := by decide +kernel
theorem dX10_tossOf_105 : decode cX10_tossOf 105 = .ok (.getfield 120, 3) := by decide +kernel
theorem dX10_tossOf_108 : decode cX10_tossOf 108 = .ok (.idiv, 1) := by decide +kernel
theorem dX10_tossOf_109 : decode cX10_tossOf 109 = .ok (.goto 19, 3) := by decide +kernel
theorem dX10_tossOf_112 : decode cX10_tossOf 112 = .ok (.iload_n 2, 1) := by decide +kernel
theorem dX10_tossOf_113 : decode cX10_tossOf 113 = .ok (.iconst 1, 1) := by decide +kernel
theorem dX10_tossOf_114 : decode cX10_tossOf 114 = .ok (.if_icmp .ne 12, 3) := by decide +kernel
theorem dX10_tossOf_117 : decode cX10_tossOf 117 = .ok (.iload_n 3, 1) := by decide +kernel
theorem dX10_tossOf_118 : decode cX10_tossOf 118 = .ok (.aload_n 0, 1) := by decide +kernel
theorem dX10_tossOf_119 : decode cX10_tossOf 119 = .ok (.getfield 120, 3) := by decide +kernel
theorem dX10_tossOf_122 : decode cX10_tossOf 122 = .ok (.irem, 1) := by decide +kernel
theorem dX10_tossOf_123 : decode cX10_tossOf 123 = .ok (.goto 5, 3) := by decide +kernel
theorem dX10_tossOf_126 : decode cX10_tossOf 126 = .ok (.iload 4, 2) := by decide +kernel
theorem dX10_tossOf_128 : decode cX10_tossOf 128 = .ok (.ireturn, 1) := by decide +kernel
noncomputable def F10_tossOf_b85 (v1 : Int32) (v2 : Int32) (a3 : Int32) (a4 : Int32) (M : Mem) : Option (Int32 × Mem) :=
  (if a3 = (-1 : Int32) then some ((-1 : Int32), (mset M 0 14 (-1 : Int32))) else (if v2 = (0 : Int32) then (lt (mset M 0 14 (-1 : Int32)) (fun M8 => (nz (M8 0 7) (some ((a3 / (M8 0 7)), M8))))) else (if v2 = (1 : Int32) then (lt (mset M 0 14 (-1 : Int32)) (fun M7 => (nz (M7 0 7) (some ((jrem a3 (M7 0 7)), M7))))) else some (a4, (mset M 0 14 (-1 : Int32))))))
noncomputable def F10_tossOf_b69 (kh : Int32 → Int32 → Int32 → Mem → Option (Int32 × Mem)) (kx85 : Int32 → Int32 → Mem → Option (Int32 × Mem)) (v1 : Int32) (v2 : Int32) (a4 : Int32) (a5 : Int32) (a6 : Int32) (s0 : Int32) (M : Mem) : Option (Int32 × Mem) :=
  ((F10_greater a6 a4).bind (fun q9 => (kh s0 q9 (a5 + (1 : Int32)) M)))
noncomputable def F10_tossOf_p8 (kh : Int32 → Int32 → Int32 → Mem → Option (Int32 × Mem)) (kx85 : Int32 → Int32 → Mem → Option (Int32 × Mem)) (v1 : Int32) (v2 : Int32) (a3 : Int32) (a4 : Int32) (a5 : Int32) (M : Mem) : Option (Int32 × Mem) :=
  (if ((40 : Int32) * (M 0 7)) ≤ a5 then kx85 a3 a4 M else (nz (M 0 7) (lt (mset M 0 14 (a5 / (M 0 7))) (fun M10 => (nz (M10 0 7) (lt (mset M10 0 15 (jrem a5 (M10 0 7))) (fun M11 => ((F10_lives M11).bind (fun q12 => ((F10_hearsOf v1 q12).bind (fun q13 => ((F10_ones q13).bind (fun q14 => (if q14 ≤ a4 then (F10_tossOf_b69 kh kx85 v1 v2) a4 a5 q14 a3 q12 else (F10_tossOf_b69 kh kx85 v1 v2) a4 a5 q14 a5 q12))))))))))))))
noncomputable def F10_tossOf_h8 (kx85 : Int32 → Int32 → Mem → Option (Int32 × Mem)) (v1 : Int32) (v2 : Int32) : Nat → Int32 → Int32 → Int32 → Mem → Option (Int32 × Mem)
  | 0, _, _, _, _ => none
  | n + 1, a3, a4, a5, M => F10_tossOf_p8 (F10_tossOf_h8 kx85 v1 v2 n) kx85 v1 v2 a3 a4 a5 M
noncomputable def F10_tossOf (v1 : Int32) (v2 : Int32) (mm : Mem) : Option (Int32 × Mem) :=
  (F10_tossOf_h8 (F10_tossOf_b85 v1 v2) v1 v2 FU) (-1 : Int32) (-1 : Int32) (0 : Int32) mm
set_option maxHeartbeats 4000000 in
set_option maxRecDepth 100000 in
theorem kX10_tossOf (l : Launch) (g : GG) (v1 : Int32) (v2 : Int32) (mc mm : Mem) (q : Int32 × Mem) (hF : F10_tossOf v1 v2 mm = some q) : KI l yX10_tossOf cX10_tossOf 7 .int 6 139 g [.ref (g.1 108), .int v1, .int v2] mc mm q.1 (mc, q.2) := by
  intro sz
  refine x_start (Qc := fun z => QI g z q.1 (mc, q.2)) (by decide +kernel) (Nat.le_of_ble_eq_true rfl) ?_ sz
  intro p e s m args below meth c ls Z hr hlk hP hl
  have hx := Z.1.1
  have hb := Z.1.2.1
  have hown := Z.1.2.2.2.1
  have hts := Z.1.2.2.2.2
  have hS : va_S (AA g s.heap.size) s.heap s.heap [] := va_S.rf
  have hl : lv_has ls 7 [(0, .ref (g.1 108)), (1, .int v1), (2, .int v2)] := hl
  unfold F10_tossOf at hF
  have hb85 : ∀ (a3 : Int32) (a4 : Int32) (M : Mem), F10_tossOf_b85 v1 v2 a3 a4 M = some q → ∀ (H : Heap) (locs : List Loc) (ls : Array Slot), lv_has ls 7 [(0, .ref (g.1 108)), (2, .int v2), (3, .int a3), (4, .int a4)] → va_P g.2.2.1 vwCl (wL g mc M) H → va_S (AA g s.heap.size) s.heap H locs → W p l e { frames := 6, cells := 0, slots := 0, locals := 139 } s m args below meth c H locs 0 0 (MQ below (QI g s.heap.size q.1 (mc, q.2)) args s 0 0 (AA g s.heap.size)) (F0 m 85 ls []) := by
    intro a3 a4 M hF H locs ls hl hP hS
    unfold F10_tossOf_b85 at hF
    refine lv_aload_n hx hb dX10_tossOf_85 rfl (lv_at hl 0 rfl) ?_
    refine lv_iconst (v := (-1 : Int32)) hx hb dX10_tossOf_86 ic_m1 ?_
    refine pf10_14 Z hP hS wd_7_2 dX10_tossOf_87 (fun H locs hP hS => ?_)
    refine lv_iload_n hx hb dX10_tossOf_90 rfl (lv_at hl 2 rfl) ?_
    refine lv_iconst (v := (-1 : Int32)) hx hb dX10_tossOf_91 ic_m1 ?_
    refine lv_icmp_ne (tgt := 99) hx hb dX10_tossOf_92 rfl (fun hc => ?_) (fun hc => ?_)
    · have hF := (if_neg hc).symm.trans hF
      refine lv_iload_n hx hb dX10_tossOf_99 rfl (lv_at hl 1 rfl) ?_
      refine lv_if_ne (tgt := 112) hx hb dX10_tossOf_100 rfl (fun hc => ?_) (fun hc => ?_)
      · have hF := (if_neg hc).symm.trans hF
        refine lv_iload_n hx hb dX10_tossOf_112 rfl (lv_at hl 1 rfl) ?_
        refine lv_iconst (v := (1 : Int32)) hx hb dX10_tossOf_113 ic_1 ?_
        refine lv_icmp_ne (tgt := 126) hx hb dX10_tossOf_114 rfl (fun hc => ?_) (fun hc => ?_)
        · have hF := (if_neg hc).symm.trans hF
          refine lv_iload hx hb dX10_tossOf_126 (lv_at hl 3 rfl) ?_
          exact ret_IWM Z hr hlk hP hS hF dX10_tossOf_128
        · have hF := (if_pos hc).symm.trans hF
          refine lv_iload_n hx hb dX10_tossOf_117 rfl (lv_at hl 2 rfl) ?_
          refine lv_aload_n hx hb dX10_tossOf_118 rfl (lv_at hl 0 rfl) ?_
          obtain ⟨M7, eM7, hF⟩ := lt_ok hF
          have hP : va_P g.2.2.1 vwCl (wL g mc M7) H := by rw [eM7]; exact hP
          refine gf10_7 Z hP wd_14_19 dX10_tossOf_119 ?_
          obtain ⟨hnz, hF⟩ := nz_ok hF
          refine lv_irem hx hb dX10_tossOf_122 hnz ?_
          refine lv_goto (tgt := 128) hx hb dX10_tossOf_123 rfl ?_
          exact ret_IWM Z hr hlk hP hS hF dX10_tossOf_128
      · have hF := (if_pos hc).symm.trans hF
        refine lv_iload_n hx hb dX10_tossOf_103 rfl (lv_at hl 2 rfl) ?_
        refine lv_aload_n hx hb dX10_tossOf_104 rfl (lv_at hl 0 rfl) ?_
        obtain ⟨M8, eM8, hF⟩ := lt_ok hF
        have hP : va_P g.2.2.1 vwCl (wL g mc M8) H := by rw [eM8]; exact hP
        refine gf10_7 Z hP wd_14_19 dX10_tossOf_105 ?_
        obtain ⟨hnz, hF⟩ := nz_ok hF
        refine lv_idiv hx hb dX10_tossOf_108 hnz ?_
        refine lv_goto (tgt := 128) hx hb dX10_tossOf_109 rfl ?_
        exact ret_IWM Z hr hlk hP hS hF dX10_tossOf_128
    · have hF := (if_pos hc).symm.trans hF
      refine lv_iconst (v := (-1 : Int32)) hx hb dX10_tossOf_95 ic_m1 ?_
      refine lv_goto (tgt := 128) hx hb dX10_tossOf_96 rfl ?_
      exact ret_IWM Z hr hlk hP hS hF dX10_tossOf_128
  have hL8 : ∀ (kx85 : Int32 → Int32 → Mem → Option (Int32 × Mem)), (∀ (a3 : Int32) (a4 : Int32) (M : Mem), kx85 a3 a4 M = some q → ∀ (H : Heap) (locs : List Loc) (ls : Array Slot), lv_has ls 7 [(0, .ref (g.1 108)), (2, .int v2), (3, .int a3), (4, .int a4)] → va_P g.2.2.1 vwCl (wL g mc M) H → va_S (AA g s.heap.size) s.heap H locs → W p l e { frames := 6, cells := 0, slots := 0, locals := 139 } s m args below meth c H locs 0 0 (MQ below (QI g s.heap.size q.1 (mc, q.2)) args s 0 0 (AA g s.heap.size)) (F0 m 85 ls [])) → ∀ n : Nat, ∀ (a3 : Int32) (a4 : Int32) (a5 : Int32) (M : Mem), F10_tossOf_h8 kx85 v1 v2 n a3 a4 a5 M = some q → ∀ (H : Heap) (locs : List Loc) (ls : Array Slot), lv_has ls 7 [(0, .ref (g.1 108)), (1, .int v1), (2, .int v2), (3, .int a3), (4, .int a4), (5, .int a5)] → va_P g.2.2.1 vwCl (wL g mc M) H → va_S (AA g s.heap.size) s.heap H locs → W p l e { frames := 6, cells := 0, slots := 0, locals := 139 } s m args below meth c H locs 0 0 (MQ below (QI g s.heap.size q.1 (mc, q.2)) args s 0 0 (AA g s.heap.size)) (F0 m 8 ls []) := by
    intro kx85 hx85 n
    induction n with
    | zero => intro a3 a4 a5 M hF H locs ls hl hP hS; exact absurd hF (fun z => nomatch (show (none : Option _) = some q from z))
    | succ n ih =>
      generalize hkh : F10_tossOf_h8 kx85 v1 v2 n = kh at ih
      have hb69 : ∀ (a4 : Int32) (a5 : Int32) (a6 : Int32) (s0 : Int32) (M : Mem), F10_tossOf_b69 kh kx85 v1 v2 a4 a5 a6 s0 M = some q → ∀ (H : Heap) (locs : List Loc) (ls : Array Slot), lv_has ls 7 [(0, .ref (g.1 108)), (1, .int v1), (2, .int v2), (4, .int a4), (5, .int a5), (6, .int a6)] → va_P g.2.2.1 vwCl (wL g mc M) H → va_S (AA g s.heap.size) s.heap H locs → W p l e { frames := 6, cells := 0, slots := 0, locals := 139 } s m args below meth c H locs 0 0 (MQ below (QI g s.heap.size q.1 (mc, q.2)) args s 0 0 (AA g s.heap.size)) (F0 m 69 ls [.int s0]) := by
        intro a4 a5 a6 s0 M hF H locs ls hl hP hS
        unfold F10_tossOf_b69 at hF
        refine lv_istore_n (lv' := [(3, .int s0), (0, .ref (g.1 108)), (1, .int v1), (2, .int v2), (4, .int a4), (5, .int a5), (6, .int a6)]) hx hb dX10_tossOf_69 rfl hl (Nat.le_of_ble_eq_true rfl) rfl (fun ls hl => ?_)
        refine lv_iload hx hb dX10_tossOf_70 (lv_at hl 6 rfl) ?_
        refine lv_iload hx hb dX10_tossOf_72 (lv_at hl 4 rfl) ?_
        obtain ⟨q9, hq9, hF⟩ := bd_ok hF
        refine xX10_greater Z hP hS hq9 wd_29_13 hl.1 (Nat.le_of_ble_eq_true rfl) ⟨Nat.le_of_ble_eq_true rfl, Nat.le_of_ble_eq_true rfl⟩ dX10_tossOf_74 (fun H locs hP hS => ?_)
        refine lv_istore (lv' := [(4, .int q9), (3, .int s0), (0, .ref (g.1 108)), (1, .int v1), (2, .int v2), (5, .int a5), (6, .int a6)]) hx hb dX10_tossOf_77 hl (Nat.le_of_ble_eq_true rfl) rfl (fun ls hl => ?_)
        refine lv_iinc (lv' := [(5, .int (a5 + (1 : Int32))), (4, .int q9), (3, .int s0), (0, .ref (g.1 108)), (1, .int v1), (2, .int v2), (6, .int a6)]) (v := (a5 + (1 : Int32))) hx hb dX10_tossOf_79 hl (k := 5) rfl (io_1 _) (Nat.le_of_ble_eq_true rfl) rfl (fun ls hl => ?_)
        refine lv_goto (tgt := 8) hx hb dX10_tossOf_82 rfl ?_
        exact ih _ _ _ _ hF _ _ _ (lv_sub hl [3, 4, 5, 2, 1, 0] rfl) hP hS
      intro a3 a4 a5 M hF H locs ls hl hP hS
      have hF : F10_tossOf_p8 (F10_tossOf_h8 kx85 v1 v2 n) kx85 v1 v2 a3 a4 a5 M = some q := hF
      rw [hkh] at hF
      unfold F10_tossOf_p8 at hF
      refine lv_iload hx hb dX10_tossOf_8 (lv_at hl 5 rfl) ?_
      refine lv_bipush (v := (40 : Int32)) hx hb dX10_tossOf_10 bp_40 ?_
      refine lv_aload_n hx hb dX10_tossOf_12 rfl (lv_at hl 0 rfl) ?_
      refine gf10_7 Z hP wd_14_19 dX10_tossOf_13 ?_
      refine lv_imul hx hb dX10_tossOf_16 ?_
      refine lv_icmp_ge (tgt := 85) hx hb dX10_tossOf_17 rfl (fun hc => ?_) (fun hc => ?_)
      · have hF := (if_pos hc).symm.trans hF
        exact hx85 _ _ _ hF _ _ _ (lv_sub hl [0, 2, 3, 4] rfl) hP hS
      · have hF := (if_neg hc).symm.trans hF
        refine lv_aload_n hx hb dX10_tossOf_20 rfl (lv_at hl 0 rfl) ?_
        refine lv_iload hx hb dX10_tossOf_21 (lv_at hl 5 rfl) ?_
        refine lv_aload_n hx hb dX10_tossOf_23 rfl (lv_at hl 0 rfl) ?_
        refine gf10_7 Z hP wd_14_19 dX10_tossOf_24 ?_
        obtain ⟨hnz, hF⟩ := nz_ok hF
        refine lv_idiv hx hb dX10_tossOf_27 hnz ?_
        refine pf10_14 Z hP hS wd_7_2 dX10_tossOf_28 (fun H locs hP hS => ?_)
        refine lv_aload_n hx hb dX10_tossOf_31 rfl (lv_at hl 0 rfl) ?_
        refine lv_iload hx hb dX10_tossOf_32 (lv_at hl 5 rfl) ?_
        refine lv_aload_n hx hb dX10_tossOf_34 rfl (lv_at hl 0 rfl) ?_
        obtain ⟨M10, eM10, hF⟩ := lt_ok hF
        have hP : va_P g.2.2.1 vwCl (wL g mc M10) H := by rw [eM10]; exact hP
        refine gf10_7 Z hP wd_14_19 dX10_tossOf_35 ?_
        obtain ⟨hnz, hF⟩ := nz_ok hF
        refine lv_irem hx hb dX10_tossOf_38 hnz ?_
        refine pf10_15 Z hP hS wd_24_9 dX10_tossOf_39 (fun H locs hP hS => ?_)
        refine lv_aload_n hx hb dX10_tossOf_42 rfl (lv_at hl 0 rfl) ?_
        obtain ⟨M11, eM11, hF⟩ := lt_ok hF
        have hP : va_P g.2.2.1 vwCl (wL g mc M11) H := by rw [eM11]; exact hP
        obtain ⟨q12, hq12, hF⟩ := bd_ok hF
        refine xX10_lives Z hP hS hq12 wd_22_9 hl.1 (Nat.le_of_ble_eq_true rfl) ⟨Nat.le_of_ble_eq_true rfl, Nat.le_of_ble_eq_true rfl⟩ dX10_tossOf_43 (fun H locs hP hS => ?_)
        refine lv_aload_n hx hb dX10_tossOf_46 rfl (lv_at hl 0 rfl) ?_
        refine lv_iload_n hx hb dX10_tossOf_47 rfl (lv_at hl 1 rfl) ?_
        obtain ⟨q13, hq13, hF⟩ := bd_ok hF
        refine xX10_hearsOf Z hP hS hq13 wd_25_6 hl.1 (Nat.le_of_ble_eq_true rfl) ⟨Nat.le_of_ble_eq_true rfl, Nat.le_of_ble_eq_true rfl⟩ dX10_tossOf_48 (fun H locs hP hS => ?_)
        obtain ⟨q14, hq14, hF⟩ := bd_ok hF
        refine xX10_ones Z hP hS hq14 wd_29_10 hl.1 (Nat.le_of_ble_eq_true rfl) ⟨Nat.le_of_ble_eq_true rfl, Nat.le_of_ble_eq_true rfl⟩ dX10_tossOf_51 (fun H locs hP hS => ?_)
        refine lv_istore (lv' := [(6, .int q14), (0, .ref (g.1 108)), (1, .int v1), (2, .int v2), (3, .int a3), (4, .int a4), (5, .int a5)]) hx hb dX10_tossOf_54 hl (Nat.le_of_ble_eq_true rfl) rfl (fun ls hl => ?_)
        refine lv_iload hx hb dX10_tossOf_56 (lv_at hl 0 rfl) ?_
        refine lv_iload hx hb dX10_tossOf_58 (lv_at hl 5 rfl) ?_
        refine lv_icmp_le (tgt := 68) hx hb dX10_tossOf_60 rfl (fun hc => ?_) (fun hc => ?_)
        · have hF := (if_pos hc).symm.trans hF
          refine lv_iload_n hx hb dX10_tossOf_68 rfl (lv_at hl 4 rfl) ?_
          exact hb69 _ _ _ _ _ hF _ _ _ (lv_sub hl [1, 2, 3, 5, 6, 0] rfl) hP hS
        · have hF := (if_neg hc).symm.trans hF
          refine lv_iload hx hb dX10_tossOf_63 (lv_at hl 6 rfl) ?_
          refine lv_goto (tgt := 69) hx hb dX10_tossOf_65 rfl ?_
          exact hb69 _ _ _ _ _ hF _ _ _ (lv_sub hl [1, 2, 3, 5, 6, 0] rfl) hP hS
  refine lv_iconst (v := (-1 : Int32)) hx hb dX10_tossOf_0 ic_m1 ?_
  refine lv_istore_n (lv' := [(3, .int (-1 : Int32)), (0, .ref (g.1 108)), (1, .int v1), (2, .int v2)]) hx hb dX10_tossOf_1 rfl hl (Nat.le_of_ble_eq_true rfl) rfl (fun ls hl => ?_)
  refine lv_iconst (v := (-1 : Int32)) hx hb dX10_tossOf_2 ic_m1 ?_
  refine lv_istore (lv' := [(4, .int (-1 : Int32)), (3, .int (-1 : Int32)), (0, .ref (g.1 108)), (1, .int v1), (2, .int v2)]) hx hb dX10_tossOf_3 hl (Nat.le_of_ble_eq_true rfl) rfl (fun ls hl => ?_)
  refine lv_iconst (v := (0 : Int32)) hx hb dX10_tossOf_5 ic_0 ?_
  refine lv_istore (lv' := [(5, .int (0 : Int32)), (4, .int (-1 : Int32)), (3, .int (-1 : Int32)), (0, .ref (g.1 108)), (1, .int v1), (2, .int v2)]) hx hb dX10_tossOf_6 hl (Nat.le_of_ble_eq_true rfl) rfl (fun ls hl => ?_)
  exact (hL8 _ hb85 FU) _ _ _ _ hF _ _ _ (lv_sub hl [3, 4, 5, 2, 1, 0] rfl) hP hS
theorem xX10_tossOf {p : Program} {l : Launch} {e : Env} {R : Room} {s : State} {m : MethodId} {args : Array Value} {below : List Frame} {meth : Method} {c : Code} {H : Heap} {locs : List Loc} {Q : State → Prop} {cc : ByteArray} {nL : Nat} {own : String} {g : GG} {pc index : Nat} {ls : Array Slot} {rest : List Value} {mc mm : Mem} (Z : ZZ p s m args c cc nL own g) (hP : va_P g.2.2.1 vwCl (wL g mc mm) H) (hS : va_S (AA g s.heap.size) s.heap H locs) {v1 : Int32} {v2 : Int32} {q : Int32 × Mem} (hq : F10_tossOf v1 v2 mm = some q) (hlk : Cond.methodLink own index yX10_tossOf ∈ wsL_law) (hsz : ls.size = nL) (hro : (rest.map fun v => v.category).sum ≤ 8) (hR : 6 + 1 ≤ R.frames ∧ 8 + (7 + 11) + 139 ≤ R.locals) (hdg : decode cc pc = .ok (.invokevirtual index, 3)) (kk : ∀ (H : Heap) (locs : List Loc), va_P g.2.2.1 vwCl (wL g mc q.2) H → va_S (AA g s.heap.size) s.heap H locs → W p l e R s m args below meth c H locs 0 0 Q (F0 m (pc + 3) ls (.int q.1 :: rest))) : W p l e R s m args below meth c H locs 0 0 Q (F0 m pc ls (.int v2 :: .int v1 :: .ref (g.1 108) :: rest)) :=
  x_VI Z hP hS (kX10_tossOf l g v1 v2 mc mm q hq) (mO) (ci := 10) (by decide) rfl rfl mf_X10_tossOf mv_X10_tossOf hlk rfl rfl hsz hro hR hdg kk
theorem dX10_toss_0 : decode cX10_toss 0 = .ok (.aload_n 0, 1) := by decide +kernel
theorem dX10_toss_1 : decode cX10_toss 1 = .ok (.invokevirtual 236, 3) := by decide +kernel
theorem dX10_toss_4 : decode cX10_toss 4 = .ok (.iload_n 1, 1) := by decide +kernel
theorem dX10_toss_5 : decode cX10_toss 5 = .ok (.invokestatic 178, 3) := by decide +kernel
theorem dX10_toss_8 : decode cX10_toss 8 = .ok (.ifCond .eq 24, 3) := by decide +kernel
theorem dX10_toss_11 : decode cX10_toss 11 = .ok (.iload_n 2, 1) := by decide +kernel
theorem dX10_toss_12 : decode cX10_toss 12 = .ok (.i2l, 1) := by decide +kernel
theorem dX10_toss_13 : decode cX10_toss 13 = .ok (.lconst 0, 1) := by decide +kernel
theorem dX10_toss_14 : decode cX10_toss 14 = .ok (.ldc2_w 96, 3) := by decide +kernel
theorem dX10_toss_17 : decode cX10_toss 17 = .ok (.invokestatic 83, 3) := by decide +kernel
theorem dX10_toss_20 : decode cX10_toss 20 = .ok (.ifCond .eq 12, 3) := by decide +kernel
theorem dX10_toss_23 : decode cX10_toss 23 = .ok (.aload_n 0, 1) := by decide +kernel
theorem dX10_toss_24 : decode cX10_toss 24 = .ok (.iload_n 1, 1) := by decide +kernel
theorem dX10_toss_25 : decode cX10_toss 25 = .ok (.iload_n 2, 1) := by decide +kernel
theorem dX10_toss_26 : decode cX10_toss 26 = .ok (.invokevirtual 268, 3) := by decide +kernel
theorem dX10_toss_29 : decode cX10_toss 29 = .ok (.goto 5, 3) := by decide +kernel
theorem dX10_toss_32 : decode cX10_toss 32 = .ok (.bipush (-2), 2) := by decide +kernel
theorem dX10_toss_34 : decode cX10_toss 34 = .ok (.ireturn, 1) := by decide +kernel
noncomputable def F10_toss_b32 (v1 : Int32) (v2 : Int32) (M : Mem) : Option (Int32 × Mem) :=
  some ((-2 : Int32), M)
noncomputable def F10_toss (v1 : Int32) (v2 : Int32) (mm : Mem) : Option (Int32 × Mem) :=
  ((F10_find mm).bind (fun q5 => ((F10_isEight v1).bind (fun q6 => (if q6 = (0 : Int32) then (F10_toss_b32 v1 v2) q5 else ((F10_in v2.toInt64 (0 : Int64) (2 : Int64)).bind (fun q7 => (if q7 = (0 : Int32) then (F10_toss_b32 v1 v2) q5 else ((F10_tossOf v1 v2 q5).bind (fun q8 => (some (q8.1, q8.2))))))))))))
set_option maxHeartbeats 4000000 in
set_option maxRecDepth 100000 in
theorem kX10_toss (l : Launch) (g : GG) (v1 : Int32) (v2 : Int32) (mc mm : Mem) (q : Int32 × Mem) (hF : F10_toss v1 v2 mm = some q) : KI l yX10_toss cX10_toss 3 .int 7 165 g [.ref (g.1 108), .int v1, .int v2] mc mm q.1 (mc, q.2) := by
  intro sz
  refine x_start (Qc := fun z => QI g z q.1 (mc, q.2)) (by decide +kernel) (Nat.le_of_ble_eq_true rfl) ?_ sz
  intro p e s m args below meth c ls Z hr hlk hP hl
  have hx := Z.1.1
  have hb := Z.1.2.1
  have hown := Z.1.2.2.2.1
  have hts := Z.1.2.2.2.2
  have hS : va_S (AA g s.heap.size) s.heap s.heap [] := va_S.rf
  have hl : lv_has ls 3 [(0, .ref (g.1 108)), (1, .int v1), (2, .int v2)] := hl
  unfold F10_toss at hF
  have hb32 : ∀  (M : Mem), F10_toss_b32 v1 v2 M = some q → ∀ (H : Heap) (locs : List Loc) (ls : Array Slot), lv_has ls 3 [] → va_P g.2.2.1 vwCl (wL g mc M) H → va_S (AA g s.heap.size) s.heap H locs → W p l e { frames := 7, cells := 0, slots := 0, locals := 165 } s m args below meth c H locs 0 0 (MQ below (QI g s.heap.size q.1 (mc, q.2)) args s 0 0 (AA g s.heap.size)) (F0 m 32 ls []) := by
    intro M hF H locs ls hl hP hS
    unfold F10_toss_b32 at hF
    refine lv_bipush (v := (-2 : Int32)) hx hb dX10_toss_32 bp_m2 ?_
    exact ret_IWM Z hr hlk hP hS hF dX10_toss_34
  refine lv_aload_n hx hb dX10_toss_0 rfl (lv_at hl 0 rfl) ?_
  obtain ⟨q5, hq5, hF⟩ := bd_ok hF
  refine xX10_find Z hP hS hq5 wd_22_5 hl.1 (Nat.le_of_ble_eq_true rfl) ⟨Nat.le_of_ble_eq_true rfl, Nat.le_of_ble_eq_true rfl⟩ dX10_toss_1 (fun H locs hP hS => ?_)
  refine lv_iload_n hx hb dX10_toss_4 rfl (lv_at hl 1 rfl) ?_
  obtain ⟨q6, hq6, hF⟩ := bd_ok hF
  refine xX10_isEight Z hP hS hq6 wd_18_9 hl.1 (Nat.le_of_ble_eq_true rfl) ⟨Nat.le_of_ble_eq_true rfl, Nat.le_of_ble_eq_true rfl⟩ dX10_toss_5 (fun H locs hP hS => ?_)
  refine lv_if_eq (tgt := 32) hx hb dX10_toss_8 rfl (fun hc => ?_) (fun hc => ?_)
  · have hF := (if_pos hc).symm.trans hF
    exact hb32 _ hF _ _ _ (lv_sub hl [] rfl) hP hS
  · have hF := (if_neg hc).symm.trans hF
    refine lv_iload_n hx hb dX10_toss_11 rfl (lv_at hl 2 rfl) ?_
    refine lv_i2l (v := v2.toInt64) hx hb dX10_toss_12 rfl ?_
    refine lv_lconst (v := (0 : Int64)) hx hb dX10_toss_13 lc_0 ?_
    refine lv_ldc2 (v := (2 : Int64)) hx hb hown (hts _ wd_18_3) dX10_toss_14 ?_
    obtain ⟨q7, hq7, hF⟩ := bd_ok hF
    refine xX10_in Z hP hS hq7 wd_13_8 hl.1 (Nat.le_of_ble_eq_true rfl) ⟨Nat.le_of_ble_eq_true rfl, Nat.le_of_ble_eq_true rfl⟩ dX10_toss_17 (fun H locs hP hS => ?_)
    refine lv_if_eq (tgt := 32) hx hb dX10_toss_20 rfl (fun hc => ?_) (fun hc => ?_)
    · have hF := (if_pos hc).symm.trans hF
      exact hb32 _ hF _ _ _ (lv_sub hl [] rfl) hP hS
    · have hF := (if_neg hc).symm.trans hF
      refine lv_aload_n hx hb dX10_toss_23 rfl (lv_at hl 0 rfl) ?_
      refine lv_iload_n hx hb dX10_toss_24 rfl (lv_at hl 1 rfl) ?_
      refine lv_iload_n hx hb dX10_toss_25 rfl (lv_at hl 2 rfl) ?_
      obtain ⟨q8, hq8, hF⟩ := bd_ok hF
      refine xX10_tossOf Z hP hS hq8 wd_29_6 hl.1 (Nat.le_of_ble_eq_true rfl) ⟨Nat.le_of_ble_eq_true rfl, Nat.le_of_ble_eq_true rfl⟩ dX10_toss_26 (fun H locs hP hS => ?_)
      refine lv_goto (tgt := 34) hx hb dX10_toss_29 rfl ?_
      exact ret_IWM Z hr hlk hP hS hF dX10_toss_34
theorem xX10_toss {p : Program} {l : Launch} {e : Env} {R : Room} {s : State} {m : MethodId} {args : Array Value} {below : List Frame} {meth : Method} {c : Code} {H : Heap} {locs : List Loc} {Q : State → Prop} {cc : ByteArray} {nL : Nat} {own : String} {g : GG} {pc index : Nat} {ls : Array Slot} {rest : List Value} {mc mm : Mem} (Z : ZZ p s m args c cc nL own g) (hP : va_P g.2.2.1 vwCl (wL g mc mm) H) (hS : va_S (AA g s.heap.size) s.heap H locs) {v1 : Int32} {v2 : Int32} {q : Int32 × Mem} (hq : F10_toss v1 v2 mm = some q) (hlk : Cond.methodLink own index yX10_toss ∈ wsL_law) (hsz : ls.size = nL) (hro : (rest.map fun v => v.category).sum ≤ 8) (hR : 7 + 1 ≤ R.frames ∧ 8 + (3 + 11) + 165 ≤ R.locals) (hdg : decode cc pc = .ok (.invokevirtual index, 3)) (kk : ∀ (H : Heap) (locs : List Loc), va_P g.2.2.1 vwCl (wL g mc q.2) H → va_S (AA g s.heap.size) s.heap H locs → W p l e R s m args below meth c H locs 0 0 Q (F0 m (pc + 3) ls (.int q.1 :: rest))) : W p l e R s m args below meth c H locs 0 0 Q (F0 m pc ls (.int v2 :: .int v1 :: .ref (g.1 108) :: rest)) :=
  x_VI Z hP hS (kX10_toss l g v1 v2 mc mm q hq) (mO) (ci := 10) (by decide) rfl rfl mf_X10_toss mv_X10_toss hlk rfl rfl hsz hro hR hdg kk
theorem dX10_isOpen_0 : decode cX10_isOpen 0 = .ok (.aload_n 0, 1) := by decide +kernel
theorem dX10_isOpen_1 : decode cX10_isOpen 1 = .ok (.iload_n 2, 1) := by decide +kernel
theorem dX10_isOpen_2 : decode cX10_isOpen 2 = .ok (.putfield 187, 3) := by decide +kernel
theorem dX10_isOpen_5 : decode cX10_isOpen 5 = .ok (.aload_n 0, 1) := by decide +kernel
theorem dX10_isOpen_6 : decode cX10_isOpen 6 = .ok (.invokevirtual 233, 3) := by decide +kernel
theorem dX10_isOpen_9 : decode cX10_isOpen 9 = .ok (.aload_n 0, 1) := by decide +kernel
theorem dX10_isOpen_10 : decode cX10_isOpen 10 = .ok (.iconst 0, 1) := by decide +kernel
theorem dX10_isOpen_11 : decode cX10_isOpen 11 = .ok (.putfield 187, 3) := by decide +kernel
theorem dX10_isOpen_14 : decode cX10_isOpen 14 = .ok (.aload_n 0, 1) := by decide +kernel
theorem dX10_isOpen_15 : decode cX10_isOpen 15 = .ok (.iload_n 1, 1) := by decide +kernel
theorem dX10_isOpen_16 : decode cX10_isOpen 16 = .ok (.invokevirtual 247, 3) := by decide +kernel
theorem dX10_isOpen_19 : decode cX10_isOpen 19 = .ok (.iconst 1, 1) := by decide +kernel
theorem dX10_isOpen_20 : decode cX10_isOpen 20 = .ok (.aload_n 0, 1) := by decide +kernel
theorem dX10_isOpen_21 : decode cX10_isOpen 21 = .ok (.getfield 134, 3) := by decide +kernel
theorem dX10_isOpen_24 : decode cX10_isOpen 24 = .ok (.ishl, 1) := by decide +kernel
theorem dX10_isOpen_25 : decode cX10_isOpen 25 = .ok (.iconst 1, 1) := by decide +kernel
theorem dX10_isOpen_26 : decode cX10_isOpen 26 = .ok (.isub, 1) := by decide +kernel
theorem dX10_isOpen_27 : decode cX10_isOpen 27 = .ok (.if_icmp .ne 7, 3) := by decide +kernel
theorem dX10_isOpen_30 : decode cX10_isOpen 30 = .ok (.iconst 1, 1) := by decide +kernel
theorem dX10_isOpen_31 : decode cX10_isOpen 31 = .ok (.goto 4, 3) := by decide +kernel
theorem dX10_isOpen_34 : decode cX10_isOpen 34 = .ok (.iconst 0, 1) := by decide +kernel
theorem dX10_isOpen_35 : decode cX10_isOpen 35 = .ok (.ireturn, 1) := by decide +kernel
noncomputable def F10_isOpen (v1 : Int32) (v2 : Int32) (mm : Mem) : Option (Int32 × Mem) :=
  (lt (mset mm 0 13 v2) (fun M5 => ((F10_lives M5).bind (fun q6 => (lt (mset q6 0 13 (0 : Int32)) (fun M7 => ((F10_hearsOf v1 M7).bind (fun q8 => (if q8 = (((1 : Int32) <<< ((M7 0 9) &&& (31 : Int32))) - (1 : Int32)) then some ((1 : Int32), M7) else some ((0 : Int32), M7))))))))))
set_option maxHeartbeats 4000000 in
set_option maxRecDepth 100000 in
theorem kX10_isOpen (l : Launch) (g : GG) (v1 : Int32) (v2 : Int32) (mc mm : Mem) (q : Int32 × Mem) (hF : F10_isOpen v1 v2 mm = some q) : KI l yX10_isOpen cX10_isOpen 3 .boolean 6 139 g [.ref (g.1 108), .int v1, .int v2] mc mm q.1 (mc, q.2) := by
  intro sz
  refine x_start (Qc := fun z => QI g z q.1 (mc, q.2)) (by decide +kernel) (Nat.le_of_ble_eq_true rfl) ?_ sz
  intro p e s m args below meth c ls Z hr hlk hP hl
  have hx := Z.1.1
  have hb := Z.1.2.1
  have hown := Z.1.2.2.2.1
  have hts := Z.1.2.2.2.2
  have hS : va_S (AA g s.heap.size) s.heap s.heap [] := va_S.rf
  have hl : lv_has ls 3 [(0, .ref (g.1 108)), (1, .int v1), (2, .int v2)] := hl
  unfold F10_isOpen at hF
  refine lv_aload_n hx hb dX10_isOpen_0 rfl (lv_at hl 0 rfl) ?_
  refine lv_iload_n hx hb dX10_isOpen_1 rfl (lv_at hl 2 rfl) ?_
  refine pf10_13 Z hP hS wd_23_1 dX10_isOpen_2 (fun H locs hP hS => ?_)
  refine lv_aload_n hx hb dX10_isOpen_5 rfl (lv_at hl 0 rfl) ?_
  obtain ⟨M5, eM5, hF⟩ := lt_ok hF
  have hP : va_P g.2.2.1 vwCl (wL g mc M5) H := by rw [eM5]; exact hP
  obtain ⟨q6, hq6, hF⟩ := bd_ok hF
  refine xX10_lives Z hP hS hq6 wd_22_9 hl.1 (Nat.le_of_ble_eq_true rfl) ⟨Nat.le_of_ble_eq_true rfl, Nat.le_of_ble_eq_true rfl⟩ dX10_isOpen_6 (fun H locs hP hS => ?_)
  refine lv_aload_n hx hb dX10_isOpen_9 rfl (lv_at hl 0 rfl) ?_
  refine lv_iconst (v := (0 : Int32)) hx hb dX10_isOpen_10 ic_0 ?_
  refine pf10_13 Z hP hS wd_23_1 dX10_isOpen_11 (fun H locs hP hS => ?_)
  refine lv_aload_n hx hb dX10_isOpen_14 rfl (lv_at hl 0 rfl) ?_
  refine lv_iload_n hx hb dX10_isOpen_15 rfl (lv_at hl 1 rfl) ?_
  obtain ⟨M7, eM7, hF⟩ := lt_ok hF
  have hP : va_P g.2.2.1 vwCl (wL g mc M7) H := by rw [eM7]; exact hP
  obtain ⟨q8, hq8, hF⟩ := bd_ok hF
  refine xX10_hearsOf Z hP hS hq8 wd_25_6 hl.1 (Nat.le_of_ble_eq_true rfl) ⟨Nat.le_of_ble_eq_true rfl, Nat.le_of_ble_eq_true rfl⟩ dX10_isOpen_16 (fun H locs hP hS => ?_)
  refine lv_iconst (v := (1 : Int32)) hx hb dX10_isOpen_19 ic_1 ?_
  refine lv_aload_n hx hb dX10_isOpen_20 rfl (lv_at hl 0 rfl) ?_
  refine gf10_9 Z hP wd_15_5 dX10_isOpen_21 ?_
  refine lv_ishl hx hb dX10_isOpen_24 ?_
  refine lv_iconst (v := (1 : Int32)) hx hb dX10_isOpen_25 ic_1 ?_
  refine lv_isub hx hb dX10_isOpen_26 ?_
  refine lv_icmp_ne (tgt := 34) hx hb dX10_isOpen_27 rfl (fun hc => ?_) (fun hc => ?_)
  · have hF := (if_neg hc).symm.trans hF
    refine lv_iconst (v := (0 : Int32)) hx hb dX10_isOpen_34 ic_0 ?_
    exact ret_ZWM Z hr hlk hP hS (Or.inl rfl) hF dX10_isOpen_35
  · have hF := (if_pos hc).symm.trans hF
    refine lv_iconst (v := (1 : Int32)) hx hb dX10_isOpen_30 ic_1 ?_
    refine lv_goto (tgt := 35) hx hb dX10_isOpen_31 rfl ?_
    exact ret_ZWM Z hr hlk hP hS (Or.inr rfl) hF dX10_isOpen_35
theorem xX10_isOpen {p : Program} {l : Launch} {e : Env} {R : Room} {s : State} {m : MethodId} {args : Array Value} {below : List Frame} {meth : Method} {c : Code} {H : Heap} {locs : List Loc} {Q : State → Prop} {cc : ByteArray} {nL : Nat} {own : String} {g : GG} {pc index : Nat} {ls : Array Slot} {rest : List Value} {mc mm : Mem} (Z : ZZ p s m args c cc nL own g) (hP : va_P g.2.2.1 vwCl (wL g mc mm) H) (hS : va_S (AA g s.heap.size) s.heap H locs) {v1 : Int32} {v2 : Int32} {q : Int32 × Mem} (hq : F10_isOpen v1 v2 mm = some q) (hlk : Cond.methodLink own index yX10_isOpen ∈ wsL_law) (hsz : ls.size = nL) (hro : (rest.map fun v => v.category).sum ≤ 8) (hR : 6 + 1 ≤ R.frames ∧ 8 + (3 + 11) + 139 ≤ R.locals) (hdg : decode cc pc = .ok (.invokevirtual index, 3)) (kk : ∀ (H : Heap) (locs : List Loc), va_P g.2.2.1 vwCl (wL g mc q.2) H → va_S (AA g s.heap.size) s.heap H locs → W p l e R s m args below meth c H locs 0 0 Q (F0 m (pc + 3) ls (.int q.1 :: rest))) : W p l e R s m args below meth c H locs 0 0 Q (F0 m pc ls (.int v2 :: .int v1 :: .ref (g.1 108) :: rest)) :=
  x_VI Z hP hS (kX10_isOpen l g v1 v2 mc mm q hq) (mO) (ci := 10) (by decide) rfl rfl mf_X10_isOpen mv_X10_isOpen hlk rfl rfl hsz hro hR hdg kk
theorem dX10_isLid_0 : decode cX10_isLid 0 = .ok (.aload_n 0, 1) := by decide +kernel
theorem dX10_isLid_1 : decode cX10_isLid 1 = .ok (.getfield 34, 3) := by decide +kernel
theorem dX10_isLid_4 : decode cX10_isLid 4 = .ok (.iconst 3, 1) := by decide +kernel
theorem dX10_isLid_5 : decode cX10_isLid 5 = .ok (.iload_n 1, 1) := by decide +kernel
theorem dX10_isLid_6 : decode cX10_isLid 6 = .ok (.imul, 1) := by decide +kernel
theorem dX10_isLid_7 : decode cX10_isLid 7 = .ok (.iaload, 1) := by decide +kernel
theorem dX10_isLid_8 : decode cX10_isLid 8 = .ok (.iconst 1, 1) := by decide +kernel
theorem dX10_isLid_9 : decode cX10_isLid 9 = .ok (.if_icmp .ne 7, 3) := by decide +kernel
theorem dX10_isLid_12 : decode cX10_isLid 12 = .ok (.iconst 1, 1) := by decide +kernel
theorem dX10_isLid_13 : decode cX10_isLid 13 = .ok (.goto 4, 3) := by decide +kernel
theorem dX10_isLid_16 : decode cX10_isLid 16 = .ok (.iconst 0, 1) := by decide +kernel
theorem dX10_isLid_17 : decode cX10_isLid 17 = .ok (.ireturn, 1) := by decide +kernel
noncomputable def F10_isLid (v1 : Int32) (mm : Mem) : Option (Int32) :=
  (ck ((3 : Int32) * v1) 24 (if (mm 9 ((3 : Int32) * v1).toNatClampNeg) = (1 : Int32) then some (1 : Int32) else some (0 : Int32)))
set_option maxHeartbeats 4000000 in
set_option maxRecDepth 100000 in
theorem kX10_isLid (l : Launch) (g : GG) (v1 : Int32) (mc mm : Mem) (q : Int32) (hF : F10_isLid v1 mm = some q) : KI l yX10_isLid cX10_isLid 2 .boolean 0 0 g [.ref (g.1 108), .int v1] mc mm q (mc, mm) := by
  intro sz
  refine x_start (Qc := fun z => QI g z q (mc, mm)) (by decide +kernel) (Nat.le_of_ble_eq_true rfl) ?_ sz
  intro p e s m args below meth c ls Z hr hlk hP hl
  have hx := Z.1.1
  have hb := Z.1.2.1
  have hown := Z.1.2.2.2.1
  have hts := Z.1.2.2.2.2
  have hS : va_S (AA g s.heap.size) s.heap s.heap [] := va_S.rf
  have hl : lv_has ls 2 [(0, .ref (g.1 108)), (1, .int v1)] := hl
  unfold F10_isLid at hF
  refine lv_aload_n hx hb dX10_isLid_0 rfl (lv_at hl 0 rfl) ?_
  refine gf10_12 Z hP wd_6_12 dX10_isLid_1 ?_
  refine lv_iconst (v := (3 : Int32)) hx hb dX10_isLid_4 ic_3 ?_
  refine lv_iload_n hx hb dX10_isLid_5 rfl (lv_at hl 1 rfl) ?_
  refine lv_imul hx hb dX10_isLid_6 ?_
  obtain ⟨hi2, hF⟩ := ck_ok hF
  refine rM_ld Z hP 24 9 (by decide +kernel) hi2 dX10_isLid_7 ?_
  refine lv_iconst (v := (1 : Int32)) hx hb dX10_isLid_8 ic_1 ?_
  refine lv_icmp_ne (tgt := 16) hx hb dX10_isLid_9 rfl (fun hc => ?_) (fun hc => ?_)
  · have hF := (if_neg hc).symm.trans hF
    refine lv_iconst (v := (0 : Int32)) hx hb dX10_isLid_16 ic_0 ?_
    exact ret_Z Z hr hlk hP hS (Or.inl rfl) hF dX10_isLid_17
  · have hF := (if_pos hc).symm.trans hF
    refine lv_iconst (v := (1 : Int32)) hx hb dX10_isLid_12 ic_1 ?_
    refine lv_goto (tgt := 17) hx hb dX10_isLid_13 rfl ?_
    exact ret_Z Z hr hlk hP hS (Or.inr rfl) hF dX10_isLid_17
theorem xX10_isLid {p : Program} {l : Launch} {e : Env} {R : Room} {s : State} {m : MethodId} {args : Array Value} {below : List Frame} {meth : Method} {c : Code} {H : Heap} {locs : List Loc} {Q : State → Prop} {cc : ByteArray} {nL : Nat} {own : String} {g : GG} {pc index : Nat} {ls : Array Slot} {rest : List Value} {mc mm : Mem} (Z : ZZ p s m args c cc nL own g) (hP : va_P g.2.2.1 vwCl (wL g mc mm) H) (hS : va_S (AA g s.heap.size) s.heap H locs) {v1 : Int32} {q : Int32} (hq : F10_isLid v1 mm = some q) (hlk : Cond.methodLink own index yX10_isLid ∈ wsL_law) (hsz : ls.size = nL) (hro : (rest.map fun v => v.category).sum ≤ 8) (hR : 0 + 1 ≤ R.frames ∧ 8 + (2 + 11) + 0 ≤ R.locals) (hdg : decode cc pc = .ok (.invokevirtual index, 3)) (kk : ∀ (H : Heap) (locs : List Loc), va_P g.2.2.1 vwCl (wL g mc mm) H → va_S (AA g s.heap.size) s.heap H locs → W p l e R s m args below meth c H locs 0 0 Q (F0 m (pc + 3) ls (.int q :: rest))) : W p l e R s m args below meth c H locs 0 0 Q (F0 m pc ls (.int v1 :: .ref (g.1 108) :: rest)) :=
  x_VI Z hP hS (kX10_isLid l g v1 mc mm q hq) (mO) (ci := 10) (by decide) rfl rfl mf_X10_isLid mv_X10_isLid hlk rfl rfl hsz hro hR hdg kk

theorem dX10_livesOne_0 : decode cX10_livesOne 0 = .ok (.aload_n 0, 1) := by decide +kernel
theorem dX10_livesOne_1 : decode cX10_livesOne 1 = .ok (.getfield 37, 3) := by decide +kernel
theorem dX10_livesOne_4 : decode cX10_livesOne 4 = .ok (.iload_n 1, 1) := by decide +kernel
theorem dX10_livesOne_5 : decode cX10_livesOne 5 = .ok (.iconst (-1), 1) := by decide +kernel
theorem dX10_livesOne_6 : decode cX10_livesOne 6 = .ok (.iastore, 1) := by decide +kernel
theorem dX10_livesOne_7 : decode cX10_livesOne 7 = .ok (.aload_n 0, 1) := by decide +kernel
theorem dX10_livesOne_8 : decode cX10_livesOne 8 = .ok (.getfield 43, 3) := by decide +kernel
theorem dX10_livesOne_11 : decode cX10_livesOne 11 = .ok (.iload_n 1, 1) := by decide +kernel
theorem dX10_livesOne_12 : decode cX10_livesOne 12 = .ok (.iconst 0, 1) := by decide +kernel
theorem dX10_livesOne_13 : decode cX10_livesOne 13 = .ok (.iastore, 1) := by decide +kernel
theorem dX10_livesOne_14 : decode cX10_livesOne 14 = .ok (.aload_n 0, 1) := by decide +kernel
theorem dX10_livesOne_15 : decode cX10_livesOne 15 = .ok (.getfield 46, 3) := by decide +kernel
theorem dX10_livesOne_18 : decode cX10_livesOne 18 = .ok (.iload_n 1, 1) := by decide +kernel
theorem dX10_livesOne_19 : decode cX10_livesOne 19 = .ok (.iconst 0, 1) := by decide +kernel
theorem dX10_livesOne_20 : decode cX10_livesOne 20 = .ok (.iastore, 1) := by decide +kernel
theorem dX10_livesOne_21 : decode cX10_livesOne 21 = .ok (.aload_n 0, 1) := by decide +kernel
theorem dX10_livesOne_22 : decode cX10_livesOne 22 = .ok (.getfield 49, 3) := by decide +kernel
theorem dX10_livesOne_25 : decode cX10_livesOne 25 = .ok (.iload_n 1, 1) := by decide +kernel
theorem dX10_livesOne_26 : decode cX10_livesOne 26 = .ok (.aload_n 0, 1) := by decide +kernel
theorem dX10_livesOne_27 : decode cX10_livesOne 27 = .ok (.getfield 31, 3) := by decide +kernel
theorem dX10_livesOne_30 : decode cX10_livesOne 30 = .ok (.bipush 8, 2) := by decide +kernel
theorem dX10_livesOne_32 : decode cX10_livesOne 32 = .ok (.iload_n 1, 1) := by decide +kernel
theorem dX10_livesOne_33 : decode cX10_livesOne 33 = .ok (.imul, 1) := by decide +kernel
theorem dX10_livesOne_34 : decode cX10_livesOne 34 = .ok (.iconst 3, 1) := by decide +kernel
theorem dX10_livesOne_35 : decode cX10_livesOne 35 = .ok (.iadd, 1) := by decide +kernel
theorem dX10_livesOne_36 : decode cX10_livesOne 36 = .ok (.iaload, 1) := by decide +kernel
theorem dX10_livesOne_37 : decode cX10_livesOne 37 = .ok (.iastore, 1) := by decide +kernel
theorem dX10_livesOne_38 : decode cX10_livesOne 38 = .ok (.aload_n 0, 1) := by decide +kernel
theorem dX10_livesOne_39 : decode cX10_livesOne 39 = .ok (.getfield 52, 3) := by decide +kernel
theorem dX10_livesOne_42 : decode cX10_livesOne 42 = .ok (.iload_n 1, 1) := by decide +kernel
theorem dX10_livesOne_43 : decode cX10_livesOne 43 = .ok (.iconst 0, 1) := by decide +kernel
theorem dX10_livesOne_44 : decode cX10_livesOne 44 = .ok (.bastore, 1) := by decide +kernel
theorem dX10_livesOne_45 : decode cX10_livesOne 45 = .ok (.iconst 0, 1) := by decide +kernel
theorem dX10_livesOne_46 : decode cX10_livesOne 46 = .ok (.istore_n 2, 1) := by decide +kernel
theorem dX10_livesOne_47 : decode cX10_livesOne 47 = .ok (.iload_n 2, 1) := by decide +kernel
theorem dX10_livesOne_48 : decode cX10_livesOne 48 = .ok (.bipush 40, 2) := by decide +kernel
theorem dX10_livesOne_50 : decode cX10_livesOne 50 = .ok (.if_icmp .ge 85, 3) := by decide +kernel
theorem dX10_livesOne_53 : decode cX10_livesOne 53 = .ok (.aload_n 0, 1) := by decide +kernel
theorem dX10_livesOne_54 : decode cX10_livesOne 54 = .ok (.getfield 65, 3) := by decide +kernel
theorem dX10_livesOne_57 : decode cX10_livesOne 57 = .ok (.bipush 8, 2) := by decide +kernel
theorem dX10_livesOne_59 : decode cX10_livesOne 59 = .ok (.iload_n 2, 1) := by decide +kernel
theorem dX10_livesOne_60 : decode cX10_livesOne 60 = .ok (.imul, 1) := by decide +kernel
theorem dX10_livesOne_61 : decode cX10_livesOne 61 = .ok (.iload_n 1, 1) := by decide +kernel
theorem dX10_livesOne_62 : decode cX10_livesOne 62 = .ok (.iadd, 1) := by decide +kernel
theorem dX10_livesOne_63 : decode cX10_livesOne 63 = .ok (.aload_n 0, 1) := by decide +kernel
theorem dX10_livesOne_64 : decode cX10_livesOne 64 = .ok (.iload_n 2, 1) := by decide +kernel
theorem dX10_livesOne_65 : decode cX10_livesOne 65 = .ok (.iload_n 1, 1) := by decide +kernel
theorem dX10_livesOne_66 : decode cX10_livesOne 66 = .ok (.invokevirtual 227, 3) := by decide +kernel
theorem dX10_livesOne_69 : decode cX10_livesOne 69 = .ok (.ifCond .eq 7, 3) := by decide +kernel
theorem dX10_livesOne_72 : decode cX10_livesOne 72 = .ok (.iconst 1, 1) := by decide +kernel
theorem dX10_livesOne_73 : decode cX10_livesOne 73 = .ok (.goto 4, 3) := by decide +kernel
theorem dX10_livesOne_76 : decode cX10_livesOne 76 = .ok (.iconst 0, 1) := by decide +kernel
theorem dX10_livesOne_77 : decode cX10_livesOne 77 = .ok (.iastore, 1) := by decide +kernel
theorem dX10_livesOne_78 : decode cX10_livesOne 78 = .ok (.aload_n 0, 1) := by decide +kernel
theorem dX10_livesOne_79 : decode cX10_livesOne 79 = .ok (.getfield 56, 3) := by decide +kernel
theorem dX10_livesOne_82 : decode cX10_livesOne 82 = .ok (.bipush 8, 2) := by decide +kernel
theorem dX10_livesOne_84 : decode cX10_livesOne 84 = .ok (.iload_n 2, 1) := by decide +kernel
theorem dX10_livesOne_85 : decode cX10_livesOne 85 = .ok (.imul, 1) := by decide +kernel
theorem dX10_livesOne_86 : decode cX10_livesOne 86 = .ok (.iload_n 1, 1) := by decide +kernel
theorem dX10_livesOne_87 : decode cX10_livesOne 87 = .ok (.iadd, 1) := by decide +kernel
theorem dX10_livesOne_88 : decode cX10_livesOne 88 = .ok (.aload_n 0, 1) := by decide +kernel
theorem dX10_livesOne_89 : decode cX10_livesOne 89 = .ok (.getfield 37, 3) := by decide +kernel
theorem dX10_livesOne_92 : decode cX10_livesOne 92 = .ok (.iload_n 1, 1) := by decide +kernel
theorem dX10_livesOne_93 : decode cX10_livesOne 93 = .ok (.iaload, 1) := by decide +kernel
theorem dX10_livesOne_94 : decode cX10_livesOne 94 = .ok (.iastore, 1) := by decide +kernel
theorem dX10_livesOne_95 : decode cX10_livesOne 95 = .ok (.aload_n 0, 1) := by decide +kernel
theorem dX10_livesOne_96 : decode cX10_livesOne 96 = .ok (.getfield 59, 3) := by decide +kernel
theorem dX10_livesOne_99 : decode cX10_livesOne 99 = .ok (.bipush 8, 2) := by decide +kernel
theorem dX10_livesOne_101 : decode cX10_livesOne 101 = .ok (.iload_n 2, 1) := by decide +kernel
theorem dX10_livesOne_102 : decode cX10_livesOne 102 = .ok (.imul, 1) := by decide +kernel
theorem dX10_livesOne_103 : decode cX10_livesOne 103 = .ok (.iload_n 1, 1) := by decide +kernel
theorem dX10_livesOne_104 : decode cX10_livesOne 104 = .ok (.iadd, 1) := by decide +kernel
theorem dX10_livesOne_105 : decode cX10_livesOne 105 = .ok (.aload_n 0, 1) := by decide +kernel
theorem dX10_livesOne_106 : decode cX10_livesOne 106 = .ok (.getfield 46, 3) := by decide +kernel
theorem dX10_livesOne_109 : decode cX10_livesOne 109 = .ok (.iload_n 1, 1) := by decide +kernel
theorem dX10_livesOne_110 : decode cX10_livesOne 110 = .ok (.iaload, 1) := by decide +kernel
theorem dX10_livesOne_111 : decode cX10_livesOne 111 = .ok (.iastore, 1) := by decide +kernel
theorem dX10_livesOne_112 : decode cX10_livesOne 112 = .ok (.aload_n 0, 1) := by decide +kernel
theorem dX10_livesOne_113 : decode cX10_livesOne 113 = .ok (.getfield 62, 3) := by decide +kernel
theorem dX10_livesOne_116 : decode cX10_livesOne 116 = .ok (.bipush 8, 2) := by decide +kernel
theorem dX10_livesOne_118 : decode cX10_livesOne 118 = .ok (.iload_n 2, 1) := by decide +kernel
theorem dX10_livesOne_119 : decode cX10_livesOne 119 = .ok (.imul, 1) := by decide +kernel
theorem dX10_livesOne_120 : decode cX10_livesOne 120 = .ok (.iload_n 1, 1) := by decide +kernel
theorem dX10_livesOne_121 : decode cX10_livesOne 121 = .ok (.iadd, 1) := by decide +kernel
theorem dX10_livesOne_122 : decode cX10_livesOne 122 = .ok (.aload_n 0, 1) := by decide +kernel
theorem dX10_livesOne_123 : decode cX10_livesOne 123 = .ok (.getfield 49, 3) := by decide +kernel
theorem dX10_livesOne_126 : decode cX10_livesOne 126 = .ok (.iload_n 1, 1) := by decide +kernel
theorem dX10_livesOne_127 : decode cX10_livesOne 127 = .ok (.iaload, 1) := by decide +kernel
theorem dX10_livesOne_128 : decode cX10_livesOne 128 = .ok (.iastore, 1) := by decide +kernel
theorem dX10_livesOne_129 : decode cX10_livesOne 129 = .ok (.iinc 2 1, 3) := by decide +kernel
theorem dX10_livesOne_132 : decode cX10_livesOne 132 = .ok (.goto (-85), 3) := by decide +kernel
theorem dX10_livesOne_135 : decode cX10_livesOne 135 = .ok (.return_, 1) := by decide +kernel
noncomputable def F10_livesOne_b77 (kh : Int32 → Mem → Option (Mem)) (v1 : Int32) (a2 : Int32) (s1 : Int32) (s2 : Int32) (M : Mem) : Option (Mem) :=
  (ck s1 320 (lt (mset M 19 s1.toNatClampNeg s2) (fun M20 => (ck v1 8 (ck (((8 : Int32) * a2) + v1) 320 (lt (mset M20 16 (((8 : Int32) * a2) + v1).toNatClampNeg (M20 10 v1.toNatClampNeg)) (fun M23 => (ck v1 8 (ck (((8 : Int32) * a2) + v1) 320 (lt (mset M23 17 (((8 : Int32) * a2) + v1).toNatClampNeg (M23 13 v1.toNatClampNeg)) (fun M26 => (ck v1 8 (ck (((8 : Int32) * a2) + v1) 320 (kh (a2 + (1 : Int32)) (mset M26 18 (((8 : Int32) * a2) + v1).toNatClampNeg (M26 14 v1.toNatClampNeg))))))))))))))))
noncomputable def F10_livesOne_p47 (kh : Int32 → Mem → Option (Mem)) (v1 : Int32) (a2 : Int32) (M : Mem) : Option (Mem) :=
  (if (40 : Int32) ≤ a2 then some M else ((F10_passes a2 v1 M).bind (fun q29 => (if q29.1 = (0 : Int32) then (F10_livesOne_b77 kh v1) a2 (((8 : Int32) * a2) + v1) (0 : Int32) q29.2 else (F10_livesOne_b77 kh v1) a2 (((8 : Int32) * a2) + v1) (1 : Int32) q29.2))))
noncomputable def F10_livesOne_h47 (v1 : Int32) : Nat → Int32 → Mem → Option (Mem)
  | 0, _, _ => none
  | n + 1, a2, M => F10_livesOne_p47 (F10_livesOne_h47 v1 n) v1 a2 M
noncomputable def F10_livesOne (v1 : Int32) (mm : Mem) : Option (Mem) :=
  (ck v1 8 (ck v1 8 (ck v1 8 (lt (mset (mset (mset mm 10 v1.toNatClampNeg (-1 : Int32)) 12 v1.toNatClampNeg (0 : Int32)) 13 v1.toNatClampNeg (0 : Int32)) (fun M33 => (ck (((8 : Int32) * v1) + (3 : Int32)) 64 (ck v1 8 (ck v1 8 ((F10_livesOne_h47 v1 FU) (0 : Int32) (mset (mset M33 14 v1.toNatClampNeg (M33 8 (((8 : Int32) * v1) + (3 : Int32)).toNatClampNeg)) 15 v1.toNatClampNeg (0 : Int32)))))))))))
set_option maxHeartbeats 4000000 in
set_option maxRecDepth 100000 in
theorem kX10_livesOne (l : Launch) (g : GG) (v1 : Int32) (mc mm : Mem) (q : Mem) (hF : F10_livesOne v1 mm = some q) : KV l yX10_livesOne cX10_livesOne 3 4 96 g [.ref (g.1 108), .int v1] mc mm (mc, q) := by
  intro sz
  refine x_start (Qc := fun z => QV g z (mc, q)) (by decide +kernel) (Nat.le_of_ble_eq_true rfl) ?_ sz
  intro p e s m args below meth c ls Z hr hlk hP hl
  have hx := Z.1.1
  have hb := Z.1.2.1
  have hown := Z.1.2.2.2.1
  have hts := Z.1.2.2.2.2
  have hS : va_S (AA g s.heap.size) s.heap s.heap [] := va_S.rf
  have hl : lv_has ls 3 [(0, .ref (g.1 108)), (1, .int v1)] := hl
  unfold F10_livesOne at hF
  have hL47 : ∀ n : Nat, ∀ (a2 : Int32) (M : Mem), F10_livesOne_h47 v1 n a2 M = some q → ∀ (H : Heap) (locs : List Loc) (ls : Array Slot), lv_has ls 3 [(0, .ref (g.1 108)), (1, .int v1), (2, .int a2)] → va_P g.2.2.1 vwCl (wL g mc M) H → va_S (AA g s.heap.size) s.heap H locs → W p l e { frames := 4, cells := 0, slots := 0, locals := 96 } s m args below meth c H locs 0 0 (MQ below (QV g s.heap.size (mc, q)) args s 0 0 (AA g s.heap.size)) (F0 m 47 ls []) := by
    intro n
    induction n with
    | zero => intro a2 M hF H locs ls hl hP hS; exact absurd hF (fun z => nomatch (show (none : Option _) = some q from z))
    | succ n ih =>
      generalize hkh : F10_livesOne_h47 v1 n = kh at ih
      have hb77 : ∀ (a2 : Int32) (s1 : Int32) (s2 : Int32) (M : Mem), F10_livesOne_b77 kh v1 a2 s1 s2 M = some q → ∀ (H : Heap) (locs : List Loc) (ls : Array Slot), lv_has ls 3 [(0, .ref (g.1 108)), (1, .int v1), (2, .int a2)] → va_P g.2.2.1 vwCl (wL g mc M) H → va_S (AA g s.heap.size) s.heap H locs → W p l e { frames := 4, cells := 0, slots := 0, locals := 96 } s m args below meth c H locs 0 0 (MQ below (QV g s.heap.size (mc, q)) args s 0 0 (AA g s.heap.size)) (F0 m 77 ls [.int s2, .int s1, .ref (g.1 127)]) := by
        intro a2 s1 s2 M hF H locs ls hl hP hS
        unfold F10_livesOne_b77 at hF
        obtain ⟨hi19, hF⟩ := ck_ok hF
        refine rM_st Z hP hS 320 19 (by decide +kernel) hi19 dX10_livesOne_77 (fun H locs hP hS => ?_)
        refine lv_aload_n hx hb dX10_livesOne_78 rfl (lv_at hl 0 rfl) ?_
        refine gf10_22 Z hP wd_6_19 dX10_livesOne_79 ?_
        refine lv_bipush (v := (8 : Int32)) hx hb dX10_livesOne_82 bp_8 ?_
        refine lv_iload_n hx hb dX10_livesOne_84 rfl (lv_at hl 2 rfl) ?_
        refine lv_imul hx hb dX10_livesOne_85 ?_
        refine lv_iload_n hx hb dX10_livesOne_86 rfl (lv_at hl 1 rfl) ?_
        refine lv_iadd hx hb dX10_livesOne_87 ?_
        refine lv_aload_n hx hb dX10_livesOne_88 rfl (lv_at hl 0 rfl) ?_
        refine gf10_16 Z hP wd_6_13 dX10_livesOne_89 ?_
        refine lv_iload_n hx hb dX10_livesOne_92 rfl (lv_at hl 1 rfl) ?_
        obtain ⟨M20, eM20, hF⟩ := lt_ok hF
        have hP : va_P g.2.2.1 vwCl (wL g mc M20) H := by rw [eM20]; exact hP
        obtain ⟨hi21, hF⟩ := ck_ok hF
        refine rM_ld Z hP 8 10 (by decide +kernel) hi21 dX10_livesOne_93 ?_
        obtain ⟨hi22, hF⟩ := ck_ok hF
        refine rM_st Z hP hS 320 16 (by decide +kernel) hi22 dX10_livesOne_94 (fun H locs hP hS => ?_)
        refine lv_aload_n hx hb dX10_livesOne_95 rfl (lv_at hl 0 rfl) ?_
        refine gf10_23 Z hP wd_6_20 dX10_livesOne_96 ?_
        refine lv_bipush (v := (8 : Int32)) hx hb dX10_livesOne_99 bp_8 ?_
        refine lv_iload_n hx hb dX10_livesOne_101 rfl (lv_at hl 2 rfl) ?_
        refine lv_imul hx hb dX10_livesOne_102 ?_
        refine lv_iload_n hx hb dX10_livesOne_103 rfl (lv_at hl 1 rfl) ?_
        refine lv_iadd hx hb dX10_livesOne_104 ?_
        refine lv_aload_n hx hb dX10_livesOne_105 rfl (lv_at hl 0 rfl) ?_
        refine gf10_19 Z hP wd_6_16 dX10_livesOne_106 ?_
        refine lv_iload_n hx hb dX10_livesOne_109 rfl (lv_at hl 1 rfl) ?_
        obtain ⟨M23, eM23, hF⟩ := lt_ok hF
        have hP : va_P g.2.2.1 vwCl (wL g mc M23) H := by rw [eM23]; exact hP
        obtain ⟨hi24, hF⟩ := ck_ok hF
        refine rM_ld Z hP 8 13 (by decide +kernel) hi24 dX10_livesOne_110 ?_
        obtain ⟨hi25, hF⟩ := ck_ok hF
        refine rM_st Z hP hS 320 17 (by decide +kernel) hi25 dX10_livesOne_111 (fun H locs hP hS => ?_)
        refine lv_aload_n hx hb dX10_livesOne_112 rfl (lv_at hl 0 rfl) ?_
        refine gf10_24 Z hP wd_6_21 dX10_livesOne_113 ?_
        refine lv_bipush (v := (8 : Int32)) hx hb dX10_livesOne_116 bp_8 ?_
        refine lv_iload_n hx hb dX10_livesOne_118 rfl (lv_at hl 2 rfl) ?_
        refine lv_imul hx hb dX10_livesOne_119 ?_
        refine lv_iload_n hx hb dX10_livesOne_120 rfl (lv_at hl 1 rfl) ?_
        refine lv_iadd hx hb dX10_livesOne_121 ?_
        refine lv_aload_n hx hb dX10_livesOne_122 rfl (lv_at hl 0 rfl) ?_
        refine gf10_20 Z hP wd_6_17 dX10_livesOne_123 ?_
        refine lv_iload_n hx hb dX10_livesOne_126 rfl (lv_at hl 1 rfl) ?_
        obtain ⟨M26, eM26, hF⟩ := lt_ok hF
        have hP : va_P g.2.2.1 vwCl (wL g mc M26) H := by rw [eM26]; exact hP
        obtain ⟨hi27, hF⟩ := ck_ok hF
        refine rM_ld Z hP 8 14 (by decide +kernel) hi27 dX10_livesOne_127 ?_
        obtain ⟨hi28, hF⟩ := ck_ok hF
        refine rM_st Z hP hS 320 18 (by decide +kernel) hi28 dX10_livesOne_128 (fun H locs hP hS => ?_)
        refine lv_iinc (lv' := [(2, .int (a2 + (1 : Int32))), (0, .ref (g.1 108)), (1, .int v1)]) (v := (a2 + (1 : Int32))) hx hb dX10_livesOne_129 hl (k := 2) rfl (io_1 _) (Nat.le_of_ble_eq_true rfl) rfl (fun ls hl => ?_)
        refine lv_goto (tgt := 47) hx hb dX10_livesOne_132 rfl ?_
        exact ih _ _ hF _ _ _ (lv_sub hl [1, 2, 0] rfl) hP hS
      intro a2 M hF H locs ls hl hP hS
      have hF : F10_livesOne_p47 (F10_livesOne_h47 v1 n) v1 a2 M = some q := hF
      rw [hkh] at hF
      unfold F10_livesOne_p47 at hF
      refine lv_iload_n hx hb dX10_livesOne_47 rfl (lv_at hl 2 rfl) ?_
      refine lv_bipush (v := (40 : Int32)) hx hb dX10_livesOne_48 bp_40 ?_
      refine lv_icmp_ge (tgt := 135) hx hb dX10_livesOne_50 rfl (fun hc => ?_) (fun hc => ?_)
      · have hF := (if_pos hc).symm.trans hF
        exact ret_VWM Z hr hlk hP hS hF dX10_livesOne_135
      · have hF := (if_neg hc).symm.trans hF
        refine lv_aload_n hx hb dX10_livesOne_53 rfl (lv_at hl 0 rfl) ?_
        refine gf10_25 Z hP wd_6_22 dX10_livesOne_54 ?_
        refine lv_bipush (v := (8 : Int32)) hx hb dX10_livesOne_57 bp_8 ?_
        refine lv_iload_n hx hb dX10_livesOne_59 rfl (lv_at hl 2 rfl) ?_
        refine lv_imul hx hb dX10_livesOne_60 ?_
        refine lv_iload_n hx hb dX10_livesOne_61 rfl (lv_at hl 1 rfl) ?_
        refine lv_iadd hx hb dX10_livesOne_62 ?_
        refine lv_aload_n hx hb dX10_livesOne_63 rfl (lv_at hl 0 rfl) ?_
        refine lv_iload_n hx hb dX10_livesOne_64 rfl (lv_at hl 2 rfl) ?_
        refine lv_iload_n hx hb dX10_livesOne_65 rfl (lv_at hl 1 rfl) ?_
        obtain ⟨q29, hq29, hF⟩ := bd_ok hF
        refine xX10_passes Z hP hS hq29 wd_22_17 hl.1 (Nat.le_of_ble_eq_true rfl) ⟨Nat.le_of_ble_eq_true rfl, Nat.le_of_ble_eq_true rfl⟩ dX10_livesOne_66 (fun H locs hP hS => ?_)
        refine lv_if_eq (tgt := 76) hx hb dX10_livesOne_69 rfl (fun hc => ?_) (fun hc => ?_)
        · have hF := (if_pos hc).symm.trans hF
          refine lv_iconst (v := (0 : Int32)) hx hb dX10_livesOne_76 ic_0 ?_
          exact hb77 _ _ _ _ hF _ _ _ (lv_sub hl [0, 1, 2] rfl) hP hS
        · have hF := (if_neg hc).symm.trans hF
          refine lv_iconst (v := (1 : Int32)) hx hb dX10_livesOne_72 ic_1 ?_
          refine lv_goto (tgt := 77) hx hb dX10_livesOne_73 rfl ?_
          exact hb77 _ _ _ _ hF _ _ _ (lv_sub hl [0, 1, 2] rfl) hP hS
  refine lv_aload_n hx hb dX10_livesOne_0 rfl (lv_at hl 0 rfl) ?_
  refine gf10_16 Z hP wd_6_13 dX10_livesOne_1 ?_
  refine lv_iload_n hx hb dX10_livesOne_4 rfl (lv_at hl 1 rfl) ?_
  refine lv_iconst (v := (-1 : Int32)) hx hb dX10_livesOne_5 ic_m1 ?_
  obtain ⟨hi30, hF⟩ := ck_ok hF
  refine rM_st Z hP hS 8 10 (by decide +kernel) hi30 dX10_livesOne_6 (fun H locs hP hS => ?_)
  refine lv_aload_n hx hb dX10_livesOne_7 rfl (lv_at hl 0 rfl) ?_
  refine gf10_18 Z hP wd_6_15 dX10_livesOne_8 ?_
  refine lv_iload_n hx hb dX10_livesOne_11 rfl (lv_at hl 1 rfl) ?_
  refine lv_iconst (v := (0 : Int32)) hx hb dX10_livesOne_12 ic_0 ?_
  obtain ⟨hi31, hF⟩ := ck_ok hF
  refine rM_st Z hP hS 8 12 (by decide +kernel) hi31 dX10_livesOne_13 (fun H locs hP hS => ?_)
  refine lv_aload_n hx hb dX10_livesOne_14 rfl (lv_at hl 0 rfl) ?_
  refine gf10_19 Z hP wd_6_16 dX10_livesOne_15 ?_
  refine lv_iload_n hx hb dX10_livesOne_18 rfl (lv_at hl 1 rfl) ?_
  refine lv_iconst (v := (0 : Int32)) hx hb dX10_livesOne_19 ic_0 ?_
  obtain ⟨hi32, hF⟩ := ck_ok hF
  refine rM_st Z hP hS 8 13 (by decide +kernel) hi32 dX10_livesOne_20 (fun H locs hP hS => ?_)
  refine lv_aload_n hx hb dX10_livesOne_21 rfl (lv_at hl 0 rfl) ?_
  refine gf10_20 Z hP wd_6_17 dX10_livesOne_22 ?_
  refine lv_iload_n hx hb dX10_livesOne_25 rfl (lv_at hl 1 rfl) ?_
  refine lv_aload_n hx hb dX10_livesOne_26 rfl (lv_at hl 0 rfl) ?_
  refine gf10_10 Z hP wd_6_11 dX10_livesOne_27 ?_
  refine lv_bipush (v := (8 : Int32)) hx hb dX10_livesOne_30 bp_8 ?_
  refine lv_iload_n hx hb dX10_livesOne_32 rfl (lv_at hl 1 rfl) ?_
  refine lv_imul hx hb dX10_livesOne_33 ?_
  refine lv_iconst (v := (3 : Int32)) hx hb dX10_livesOne_34 ic_3 ?_
  refine lv_iadd hx hb dX10_livesOne_35 ?_
  obtain ⟨M33, eM33, hF⟩ := lt_ok hF
  have hP : va_P g.2.2.1 vwCl (wL g mc M33) H := by rw [eM33]; exact hP
  obtain ⟨hi34, hF⟩ := ck_ok hF
  refine rM_ld Z hP 64 8 (by decide +kernel) hi34 dX10_livesOne_36 ?_
  obtain ⟨hi35, hF⟩ := ck_ok hF
  refine rM_st Z hP hS 8 14 (by decide +kernel) hi35 dX10_livesOne_37 (fun H locs hP hS => ?_)
  refine lv_aload_n hx hb dX10_livesOne_38 rfl (lv_at hl 0 rfl) ?_
  refine gf10_21 Z hP wd_6_18 dX10_livesOne_39 ?_
  refine lv_iload_n hx hb dX10_livesOne_42 rfl (lv_at hl 1 rfl) ?_
  refine lv_iconst (v := (0 : Int32)) hx hb dX10_livesOne_43 ic_0 ?_
  obtain ⟨hi36, hF⟩ := ck_ok hF
  refine rMz_st Z hP hS 8 15 (by decide +kernel) (Or.inl rfl) hi36 dX10_livesOne_44 (fun H locs hP hS => ?_)
  refine lv_iconst (v := (0 : Int32)) hx hb dX10_livesOne_45 ic_0 ?_
  refine lv_istore_n (lv' := [(2, .int (0 : Int32)), (0, .ref (g.1 108)), (1, .int v1)]) hx hb dX10_livesOne_46 rfl hl (Nat.le_of_ble_eq_true rfl) rfl (fun ls hl => ?_)
  exact (hL47 FU) _ _ hF _ _ _ (lv_sub hl [1, 2, 0] rfl) hP hS
theorem xX10_livesOne {p : Program} {l : Launch} {e : Env} {R : Room} {s : State} {m : MethodId} {args : Array Value} {below : List Frame} {meth : Method} {c : Code} {H : Heap} {locs : List Loc} {Q : State → Prop} {cc : ByteArray} {nL : Nat} {own : String} {g : GG} {pc index : Nat} {ls : Array Slot} {rest : List Value} {mc mm : Mem} (Z : ZZ p s m args c cc nL own g) (hP : va_P g.2.2.1 vwCl (wL g mc mm) H) (hS : va_S (AA g s.heap.size) s.heap H locs) {v1 : Int32} {q : Mem} (hq : F10_livesOne v1 mm = some q) (hlk : Cond.methodLink own index yX10_livesOne ∈ wsL_law) (hsz : ls.size = nL) (hro : (rest.map fun v => v.category).sum ≤ 8) (hR : 4 + 1 ≤ R.frames ∧ 8 + (3 + 11) + 96 ≤ R.locals) (hdg : decode cc pc = .ok (.invokevirtual index, 3)) (kk : ∀ (H : Heap) (locs : List Loc), va_P g.2.2.1 vwCl (wL g mc q) H → va_S (AA g s.heap.size) s.heap H locs → W p l e R s m args below meth c H locs 0 0 Q (F0 m (pc + 3) ls (rest))) : W p l e R s m args below meth c H locs 0 0 Q (F0 m pc ls (.int v1 :: .ref (g.1 108) :: rest)) :=
  x_VV Z hP hS (kX10_livesOne l g v1 mc mm q hq) (mO) (ci := 10) (by decide) rfl rfl mf_X10_livesOne mv_X10_livesOne hlk rfl rfl hsz hro hR hdg kk
theorem dX10_lives_0 : decode cX10_lives 0 = .ok (.iconst 0, 1) := by decide +kernel
theorem dX10_lives_1 : decode cX10_lives 1 = .ok (.istore_n 1, 1) := by decide +kernel
theorem dX10_lives_2 : decode cX10_lives 2 = .ok (.iload_n 1, 1) := by decide +kernel
theorem dX10_lives_3 : decode cX10_lives 3 = .ok (.aload_n 0, 1) := by decide +kernel
theorem dX10_lives_4 : decode cX10_lives 4 = .ok (.getfield 134, 3) := by decide +kernel
theorem dX10_lives_7 : decode cX10_lives 7 = .ok (.if_icmp .ge 14, 3) := by decide +kernel
theorem dX10_lives_10 : decode cX10_lives 10 = .ok (.aload_n 0, 1) := by decide +kernel
theorem dX10_lives_11 : decode cX10_lives 11 = .ok (.iload_n 1, 1) := by decide +kernel
theorem dX10_lives_12 : decode cX10_lives 12 = .ok (.invokevirtual 230, 3) := by decide +kernel
theorem dX10_lives_15 : decode cX10_lives 15 = .ok (.iinc 1 1, 3) := by decide +kernel
theorem dX10_lives_18 : decode cX10_lives 18 = .ok (.goto (-16), 3) := by decide +kernel
theorem dX10_lives_21 : decode cX10_lives 21 = .ok (.return_, 1) := by decide +kernel
noncomputable def F10_lives_p2 (kh : Int32 → Mem → Option (Mem)) (a1 : Int32) (M : Mem) : Option (Mem) :=
  (if (M 0 9) ≤ a1 then some M else ((F10_livesOne a1 M).bind (fun q2 => (kh (a1 + (1 : Int32)) q2))))
noncomputable def F10_lives_h2 : Nat → Int32 → Mem → Option (Mem)
  | 0, _, _ => none
  | n + 1, a1, M => F10_lives_p2 (F10_lives_h2 n) a1 M
noncomputable def F10_lives (mm : Mem) : Option (Mem) :=
  (F10_lives_h2 FU) (0 : Int32) mm
set_option maxHeartbeats 4000000 in
set_option maxRecDepth 100000 in
theorem kX10_lives (l : Launch) (g : GG) (mc mm : Mem) (q : Mem) (hF : F10_lives mm = some q) : KV l yX10_lives cX10_lives 2 5 118 g [.ref (g.1 108)] mc mm (mc, q) := by
  intro sz
  refine x_start (Qc := fun z => QV g z (mc, q)) (by decide +kernel) (Nat.le_of_ble_eq_true rfl) ?_ sz
  intro p e s m args below meth c ls Z hr hlk hP hl
  have hx := Z.1.1
  have hb := Z.1.2.1
  have hown := Z.1.2.2.2.1
  have hts := Z.1.2.2.2.2
  have hS : va_S (AA g s.heap.size) s.heap s.heap [] := va_S.rf
  have hl : lv_has ls 2 [(0, .ref (g.1 108))] := hl
  unfold F10_lives at hF
  have hL2 : ∀ n : Nat, ∀ (a1 : Int32) (M : Mem), F10_lives_h2 n a1 M = some q → ∀ (H : Heap) (locs : List Loc) (ls : Array Slot), lv_has ls 2 [(0, .ref (g.1 108)), (1, .int a1)] → va_P g.2.2.1 vwCl (wL g mc M) H → va_S (AA g s.heap.size) s.heap H locs → W p l e { frames := 5, cells := 0, slots := 0, locals := 118 } s m args below meth c H locs 0 0 (MQ below (QV g s.heap.size (mc, q)) args s 0 0 (AA g s.heap.size)) (F0 m 2 ls []) := by
    intro n
    induction n with
    | zero => intro a1 M hF H locs ls hl hP hS; exact absurd hF (fun z => nomatch (show (none : Option _) = some q from z))
    | succ n ih =>
      generalize hkh : F10_lives_h2 n = kh at ih
      intro a1 M hF H locs ls hl hP hS
      have hF : F10_lives_p2 (F10_lives_h2 n) a1 M = some q := hF
      rw [hkh] at hF
      unfold F10_lives_p2 at hF
      refine lv_iload_n hx hb dX10_lives_2 rfl (lv_at hl 1 rfl) ?_
      refine lv_aload_n hx hb dX10_lives_3 rfl (lv_at hl 0 rfl) ?_
      refine gf10_9 Z hP wd_15_5 dX10_lives_4 ?_
      refine lv_icmp_ge (tgt := 21) hx hb dX10_lives_7 rfl (fun hc => ?_) (fun hc => ?_)
      · have hF := (if_pos hc).symm.trans hF
        exact ret_VWM Z hr hlk hP hS hF dX10_lives_21
      · have hF := (if_neg hc).symm.trans hF
        refine lv_aload_n hx hb dX10_lives_10 rfl (lv_at hl 0 rfl) ?_
        refine lv_iload_n hx hb dX10_lives_11 rfl (lv_at hl 1 rfl) ?_
        obtain ⟨q2, hq2, hF⟩ := bd_ok hF
        refine xX10_livesOne Z hP hS hq2 wd_22_13 hl.1 (Nat.le_of_ble_eq_true rfl) ⟨Nat.le_of_ble_eq_true rfl, Nat.le_of_ble_eq_true rfl⟩ dX10_lives_12 (fun H locs hP hS => ?_)
        refine lv_iinc (lv' := [(1, .int (a1 + (1 : Int32))), (0, .ref (g.1 108))]) (v := (a1 + (1 : Int32))) hx hb dX10_lives_15 hl (k := 1) rfl (io_1 _) (Nat.le_of_ble_eq_true rfl) rfl (fun ls hl => ?_)
        refine lv_goto (tgt := 2) hx hb dX10_lives_18 rfl ?_
        exact ih _ _ hF _ _ _ (lv_sub hl [1, 0] rfl) hP hS
  refine lv_iconst (v := (0 : Int32)) hx hb dX10_lives_0 ic_0 ?_
  refine lv_istore_n (lv' := [(1, .int (0 : Int32)), (0, .ref (g.1 108))]) hx hb dX10_lives_1 rfl hl (Nat.le_of_ble_eq_true rfl) rfl (fun ls hl => ?_)
  exact (hL2 FU) _ _ hF _ _ _ (lv_sub hl [1, 0] rfl) hP hS
theorem xX10_lives {p : Program} {l : Launch} {e : Env} {R : Room} {s : State} {m : MethodId} {args : Array Value} {below : List Frame} {meth : Method} {c : Code} {H : Heap} {locs : List Loc} {Q : State → Prop} {cc : ByteArray} {nL : Nat} {own : String} {g : GG} {pc index : Nat} {ls : Array Slot} {rest : List Value} {mc mm : Mem} (Z : ZZ p s m args c cc nL own g) (hP : va_P g.2.2.1 vwCl (wL g mc mm) H) (hS : va_S (AA g s.heap.size) s.heap H locs) {q : Mem} (hq : F10_lives mm = some q) (hlk : Cond.methodLink own index yX10_lives ∈ wsL_law) (hsz : ls.size = nL) (hro : (rest.map fun v => v.category).sum ≤ 8) (hR : 5 + 1 ≤ R.frames ∧ 8 + (2 + 11) + 118 ≤ R.locals) (hdg : decode cc pc = .ok (.invokevirtual index, 3)) (kk : ∀ (H : Heap) (locs : List Loc), va_P g.2.2.1 vwCl (wL g mc q) H → va_S (AA g s.heap.size) s.heap H locs → W p l e R s m args below meth c H locs 0 0 Q (F0 m (pc + 3) ls (rest))) : W p l e R s m args below meth c H locs 0 0 Q (F0 m pc ls (.ref (g.1 108) :: rest)) :=
  x_VV Z hP hS (kX10_lives l g mc mm q hq) (mO) (ci := 10) (by decide) rfl rfl mf_X10_lives mv_X10_lives hlk rfl rfl hsz hro hR hdg kk
theorem dX10_find_0 : decode cX10_find 0 = .ok (.aload_n 0, 1) := by decide +kernel
theorem dX10_find_1 : decode cX10_find 1 = .ok (.invokevirtual 140, 3) := by decide +kernel
theorem dX10_find_4 : decode cX10_find 4 = .ok (.pop, 1) := by decide +kernel
theorem dX10_find_5 : decode cX10_find 5 = .ok (.aload_n 0, 1) := by decide +kernel
theorem dX10_find_6 : decode cX10_find 6 = .ok (.invokevirtual 144, 3) := by decide +kernel
theorem dX10_find_9 : decode cX10_find 9 = .ok (.pop, 1) := by decide +kernel
theorem dX10_find_10 : decode cX10_find 10 = .ok (.aload_n 0, 1) := by decide +kernel
theorem dX10_find_11 : decode cX10_find 11 = .ok (.invokevirtual 233, 3) := by decide +kernel
theorem dX10_find_14 : decode cX10_find 14 = .ok (.return_, 1) := by decide +kernel
noncomputable def F10_find (mm : Mem) : Option (Mem) :=
  ((F10_readsWells mm).bind (fun q4 => ((F10_readsSayings q4.2).bind (fun q5 => ((F10_lives q5.2).bind (fun q6 => (some q6)))))))
set_option maxHeartbeats 4000000 in
set_option maxRecDepth 100000 in
theorem kX10_find (l : Launch) (g : GG) (mc mm : Mem) (q : Mem) (hF : F10_find mm = some q) : KV l yX10_find cX10_find 1 6 139 g [.ref (g.1 108)] mc mm (mc, q) := by
  intro sz
  refine x_start (Qc := fun z => QV g z (mc, q)) (by decide +kernel) (Nat.le_of_ble_eq_true rfl) ?_ sz
  intro p e s m args below meth c ls Z hr hlk hP hl
  have hx := Z.1.1
  have hb := Z.1.2.1
  have hown := Z.1.2.2.2.1
  have hts := Z.1.2.2.2.2
  have hS : va_S (AA g s.heap.size) s.heap s.heap [] := va_S.rf
  have hl : lv_has ls 1 [(0, .ref (g.1 108))] := hl
  unfold F10_find at hF
  refine lv_aload_n hx hb dX10_find_0 rfl (lv_at hl 0 rfl) ?_
  obtain ⟨q4, hq4, hF⟩ := bd_ok hF
  refine xX10_readsWells Z hP hS hq4 wd_14_15 hl.1 (Nat.le_of_ble_eq_true rfl) ⟨Nat.le_of_ble_eq_true rfl, Nat.le_of_ble_eq_true rfl⟩ dX10_find_1 (fun H locs hP hS => ?_)
  refine lv_pop hx hb dX10_find_4 rfl ?_
  refine lv_aload_n hx hb dX10_find_5 rfl (lv_at hl 0 rfl) ?_
  obtain ⟨q5, hq5, hF⟩ := bd_ok hF
  refine xX10_readsSayings Z hP hS hq5 wd_15_1 hl.1 (Nat.le_of_ble_eq_true rfl) ⟨Nat.le_of_ble_eq_true rfl, Nat.le_of_ble_eq_true rfl⟩ dX10_find_6 (fun H locs hP hS => ?_)
  refine lv_pop hx hb dX10_find_9 rfl ?_
  refine lv_aload_n hx hb dX10_find_10 rfl (lv_at hl 0 rfl) ?_
  obtain ⟨q6, hq6, hF⟩ := bd_ok hF
  refine xX10_lives Z hP hS hq6 wd_22_9 hl.1 (Nat.le_of_ble_eq_true rfl) ⟨Nat.le_of_ble_eq_true rfl, Nat.le_of_ble_eq_true rfl⟩ dX10_find_11 (fun H locs hP hS => ?_)
  exact ret_VWM Z hr hlk hP hS hF dX10_find_14
theorem xX10_find {p : Program} {l : Launch} {e : Env} {R : Room} {s : State} {m : MethodId} {args : Array Value} {below : List Frame} {meth : Method} {c : Code} {H : Heap} {locs : List Loc} {Q : State → Prop} {cc : ByteArray} {nL : Nat} {own : String} {g : GG} {pc index : Nat} {ls : Array Slot} {rest : List Value} {mc mm : Mem} (Z : ZZ p s m args c cc nL own g) (hP : va_P g.2.2.1 vwCl (wL g mc mm) H) (hS : va_S (AA g s.heap.size) s.heap H locs) {q : Mem} (hq : F10_find mm = some q) (hlk : Cond.methodLink own index yX10_find ∈ wsL_law) (hsz : ls.size = nL) (hro : (rest.map fun v => v.category).sum ≤ 8) (hR : 6 + 1 ≤ R.frames ∧ 8 + (1 + 11) + 139 ≤ R.locals) (hdg : decode cc pc = .ok (.invokevirtual index, 3)) (kk : ∀ (H : Heap) (locs : List Loc), va_P g.2.2.1 vwCl (wL g mc q) H → va_S (AA g s.heap.size) s.heap H locs → W p l e R s m args below meth c H locs 0 0 Q (F0 m (pc + 3) ls (rest))) : W p l e R s m args below meth c H locs 0 0 Q (F0 m pc ls (.ref (g.1 108) :: rest)) :=
  x_VV Z hP hS (kX10_find l g mc mm q hq) (mO) (ci := 10) (by decide) rfl rfl mf_X10_find mv_X10_find hlk rfl rfl hsz hro hR hdg kk
theorem dX10_atOf_0 : decode cX10_atOf 0 = .ok (.bipush 8, 2) := by decide +kernel
theorem dX10_atOf_2 : decode cX10_atOf 2 = .ok (.iload_n 1, 1) := by decide +kernel
theorem dX10_atOf_3 : decode cX10_atOf 3 = .ok (.imul, 1) := by decide +kernel
theorem dX10_atOf_4 : decode cX10_atOf 4 = .ok (.iload_n 2, 1) := by decide +kernel
theorem dX10_atOf_5 : decode cX10_atOf 5 = .ok (.iadd, 1) := by decide +kernel
theorem dX10_atOf_6 : decode cX10_atOf 6 = .ok (.istore 4, 2) := by decide +kernel
theorem dX10_atOf_8 : decode cX10_atOf 8 = .ok (.bipush 8, 2) := by decide +kernel
theorem dX10_atOf_10 : decode cX10_atOf 10 = .ok (.iload_n 2, 1) := by decide +kernel
theorem dX10_atOf_11 : decode cX10_atOf 11 = .ok (.imul, 1) := by decide +kernel
theorem dX10_atOf_12 : decode cX10_atOf 12 = .ok (.iconst 4, 1) := by decide +kernel
theorem dX10_atOf_13 : decode cX10_atOf 13 = .ok (.iadd, 1) := by decide +kernel
theorem dX10_atOf_14 : decode cX10_atOf 14 = .ok (.aload_n 0, 1) := by decide +kernel
theorem dX10_atOf_15 : decode cX10_atOf 15 = .ok (.getfield 59, 3) := by decide +kernel
theorem dX10_atOf_18 : decode cX10_atOf 18 = .ok (.iload 4, 2) := by decide +kernel
theorem dX10_atOf_20 : decode cX10_atOf 20 = .ok (.iaload, 1) := by decide +kernel
theorem dX10_atOf_21 : decode cX10_atOf 21 = .ok (.iadd, 1) := by decide +kernel
theorem dX10_atOf_22 : decode cX10_atOf 22 = .ok (.istore 5, 2) := by decide +kernel
theorem dX10_atOf_24 : decode cX10_atOf 24 = .ok (.iload_n 3, 1) := by decide +kernel
theorem dX10_atOf_25 : decode cX10_atOf 25 = .ok (.tableswitch 101 0 3 #[31, 39, 47, 69], 31) := by decide +kernel
theorem dX10_atOf_56 : decode cX10_atOf 56 = .ok (.aload_n 0, 1) := by decide +kernel
theorem dX10_atOf_57 : decode cX10_atOf 57 = .ok (.getfield 56, 3) := by decide +kernel
theorem dX10_atOf_60 : decode cX10_atOf 60 = .ok (.iload 4, 2) := by decide +kernel
theorem dX10_atOf_62 : decode cX10_atOf 62 = .ok (.iaload, 1) := by decide +kernel
theorem dX10_atOf_63 : decode cX10_atOf 63 = .ok (.ireturn, 1) := by decide +kernel
theorem dX10_atOf_64 : decode cX10_atOf 64 = .ok (.aload_n 0, 1) := by decide +kernel
theorem dX10_atOf_65 : decode cX10_atOf 65 = .ok (.getfield 62, 3) := by decide +kernel
theorem dX10_atOf_68 : decode cX10_atOf 68 = .ok (.iload 4, 2) := by decide +kernel
theorem dX10_atOf_70 : decode cX10_atOf 70 = .ok (.iaload, 1) := by decide +kernel
theorem dX10_atOf_71 : decode cX10_atOf 71 = .ok (.ireturn, 1) := by decide +kernel
theorem dX10_atOf_72 : decode cX10_atOf 72 = .ok (.aload_n 0, 1) := by decide +kernel
theorem dX10_atOf_73 : decode cX10_atOf 73 = .ok (.getfield 62, 3) := by decide +kernel
theorem dX10_atOf_76 : decode cX10_atOf 76 = .ok (.iload 4, 2) := by decide +kernel
theorem dX10_atOf_78 : decode cX10_atOf 78 = .ok (.iaload, 1) := by decide +kernel
theorem dX10_atOf_79 : decode cX10_atOf 79 = .ok (.ifCond .ne 7, 3) := by decide +kernel
theorem dX10_atOf_82 : decode cX10_atOf 82 = .ok (.iconst (-1), 1) := by decide +kernel
theorem dX10_atOf_83 : decode cX10_atOf 83 = .ok (.goto 10, 3) := by decide +kernel
theorem dX10_atOf_86 : decode cX10_atOf 86 = .ok (.aload_n 0, 1) := by decide +kernel
theorem dX10_atOf_87 : decode cX10_atOf 87 = .ok (.getfield 31, 3) := by decide +kernel
theorem dX10_atOf_90 : decode cX10_atOf 90 = .ok (.iload 5, 2) := by decide +kernel
theorem dX10_atOf_92 : decode cX10_atOf 92 = .ok (.iaload, 1) := by decide +kernel
theorem dX10_atOf_93 : decode cX10_atOf 93 = .ok (.ireturn, 1) := by decide +kernel
theorem dX10_atOf_94 : decode cX10_atOf 94 = .ok (.aload_n 0, 1) := by decide +kernel
theorem dX10_atOf_95 : decode cX10_atOf 95 = .ok (.getfield 62, 3) := by decide +kernel
theorem dX10_atOf_98 : decode cX10_atOf 98 = .ok (.iload 4, 2) := by decide +kernel
theorem dX10_atOf_100 : decode cX10_atOf 100 = .ok (.iaload, 1) := by decide +kernel
theorem dX10_atOf_101 : decode cX10_atOf 101 = .ok (.ifCond .ne 7, 3) := by decide +kernel
theorem dX10_atOf_104 : decode cX10_atOf 104 = .ok (.iconst (-1), 1) := by decide +kernel
theorem dX10_atOf_105 : decode cX10_atOf 105 = .ok (.goto 20, 3) := by decide +kernel
theorem dX10_atOf_108 : decode cX10_atOf 108 = .ok (.aload_n 0, 1) := by decide +kernel
theorem dX10_atOf_109 : decode cX10_atOf 109 = .ok (.getfield 31, 3) := by decide +kernel
theorem dX10_atOf_112 : decode cX10_atOf 112 = .ok (.iload 5, 2) := by decide +kernel
theorem dX10_atOf_114 : decode cX10_atOf 114 = .ok (.aload_n 0, 1) := by decide +kernel
theorem dX10_atOf_115 : decode cX10_atOf 115 = .ok (.getfield 62, 3) := by decide +kernel
theorem dX10_atOf_118 : decode cX10_atOf 118 = .ok (.iload 4, 2) := by decide +kernel
theorem dX10_atOf_120 : decode cX10_atOf 120 = .ok (.iaload, 1) := by decide +kernel
theorem dX10_atOf_121 : decode cX10_atOf 121 = .ok (.iadd, 1) := by decide +kernel
theorem dX10_atOf_122 : decode cX10_atOf 122 = .ok (.iconst 1, 1) := by decide +kernel
theorem dX10_atOf_123 : decode cX10_atOf 123 = .ok (.isub, 1) := by decide +kernel
theorem dX10_atOf_124 : decode cX10_atOf 124 = .ok (.iaload, 1) := by decide +kernel
theorem dX10_atOf_125 : decode cX10_atOf 125 = .ok (.ireturn, 1) := by decide +kernel
theorem dX10_atOf_126 : decode cX10_atOf 126 = .ok (.aload_n 0, 1) := by decide +kernel
theorem dX10_atOf_127 : decode cX10_atOf 127 = .ok (.getfield 65, 3) := by decide +kernel
theorem dX10_atOf_130 : decode cX10_atOf 130 = .ok (.iload 4, 2) := by decide +kernel
theorem dX10_atOf_132 : decode cX10_atOf 132 = .ok (.iaload, 1) := by decide +kernel
theorem dX10_atOf_133 : decode cX10_atOf 133 = .ok (.ireturn, 1) := by decide +kernel
noncomputable def F10_atOf (v1 : Int32) (v2 : Int32) (v3 : Int32) (mm : Mem) : Option (Int32) :=
  (ck (((8 : Int32) * v1) + v2) 320 (if v3 = (0 : Int32) then (ck (((8 : Int32) * v1) + v2) 320 (some (mm 16 (((8 : Int32) * v1) + v2).toNatClampNeg))) else (if v3 = (1 : Int32) then (ck (((8 : Int32) * v1) + v2) 320 (some (mm 18 (((8 : Int32) * v1) + v2).toNatClampNeg))) else (if v3 = (2 : Int32) then (ck (((8 : Int32) * v1) + v2) 320 (if (mm 18 (((8 : Int32) * v1) + v2).toNatClampNeg) = (0 : Int32) then some (-1 : Int32) else (ck ((((8 : Int32) * v2) + (4 : Int32)) + (mm 17 (((8 : Int32) * v1) + v2).toNatClampNeg)) 64 (some (mm 8 ((((8 : Int32) * v2) + (4 : Int32)) + (mm 17 (((8 : Int32) * v1) + v2).toNatClampNeg)).toNatClampNeg))))) else (if v3 = (3 : Int32) then (ck (((8 : Int32) * v1) + v2) 320 (if (mm 18 (((8 : Int32) * v1) + v2).toNatClampNeg) = (0 : Int32) then some (-1 : Int32) else (ck (((8 : Int32) * v1) + v2) 320 (ck ((((((8 : Int32) * v2) + (4 : Int32)) + (mm 17 (((8 : Int32) * v1) + v2).toNatClampNeg)) + (mm 18 (((8 : Int32) * v1) + v2).toNatClampNeg)) - (1 : Int32)) 64 (some (mm 8 ((((((8 : Int32) * v2) + (4 : Int32)) + (mm 17 (((8 : Int32) * v1) + v2).toNatClampNeg)) + (mm 18 (((8 : Int32) * v1) + v2).toNatClampNeg)) - (1 : Int32)).toNatClampNeg)))))) else (ck (((8 : Int32) * v1) + v2) 320 (some (mm 19 (((8 : Int32) * v1) + v2).toNatClampNeg))))))))
set_option maxHeartbeats 4000000 in
set_option maxRecDepth 100000 in
theorem kX10_atOf (l : Launch) (g : GG) (v1 : Int32) (v2 : Int32) (v3 : Int32) (mc mm : Mem) (q : Int32) (hF : F10_atOf v1 v2 v3 mm = some q) : KI l yX10_atOf cX10_atOf 6 .int 0 0 g [.ref (g.1 108), .int v1, .int v2, .int v3] mc mm q (mc, mm) := by
  intro sz
  refine x_start (Qc := fun z => QI g z q (mc, mm)) (by decide +kernel) (Nat.le_of_ble_eq_true rfl) ?_ sz
  intro p e s m args below meth c ls Z hr hlk hP hl
  have hx := Z.1.1
  have hb := Z.1.2.1
  have hown := Z.1.2.2.2.1
  have hts := Z.1.2.2.2.2
  have hS : va_S (AA g s.heap.size) s.heap s.heap [] := va_S.rf
  have hl : lv_has ls 6 [(0, .ref (g.1 108)), (1, .int v1), (2, .int v2), (3, .int v3)] := hl
  unfold F10_atOf at hF
  refine lv_bipush (v := (8 : Int32)) hx hb dX10_atOf_0 bp_8 ?_
  refine lv_iload_n hx hb dX10_atOf_2 rfl (lv_at hl 1 rfl) ?_
  refine lv_imul hx hb dX10_atOf_3 ?_
  refine lv_iload_n hx hb dX10_atOf_4 rfl (lv_at hl 2 rfl) ?_
  refine lv_iadd hx hb dX10_atOf_5 ?_
  refine lv_istore (lv' := [(4, .int (((8 : Int32) * v1) + v2)), (0, .ref (g.1 108)), (1, .int v1), (2, .int v2), (3, .int v3)]) hx hb dX10_atOf_6 hl (Nat.le_of_ble_eq_true rfl) rfl (fun ls hl => ?_)
  refine lv_bipush (v := (8 : Int32)) hx hb dX10_atOf_8 bp_8 ?_
  refine lv_iload_n hx hb dX10_atOf_10 rfl (lv_at hl 3 rfl) ?_
  refine lv_imul hx hb dX10_atOf_11 ?_
  refine lv_iconst (v := (4 : Int32)) hx hb dX10_atOf_12 ic_4 ?_
  refine lv_iadd hx hb dX10_atOf_13 ?_
  refine lv_aload_n hx hb dX10_atOf_14 rfl (lv_at hl 1 rfl) ?_
  refine gf10_23 Z hP wd_6_20 dX10_atOf_15 ?_
  refine lv_iload hx hb dX10_atOf_18 (lv_at hl 0 rfl) ?_
  obtain ⟨hi10, hF⟩ := ck_ok hF
  refine rM_ld Z hP 320 17 (by decide +kernel) hi10 dX10_atOf_20 ?_
  refine lv_iadd hx hb dX10_atOf_21 ?_
  refine lv_istore (lv' := [(5, .int ((((8 : Int32) * v2) + (4 : Int32)) + (mm 17 (((8 : Int32) * v1) + v2).toNatClampNeg))), (4, .int (((8 : Int32) * v1) + v2)), (0, .ref (g.1 108)), (1, .int v1), (2, .int v2), (3, .int v3)]) hx hb dX10_atOf_22 hl (Nat.le_of_ble_eq_true rfl) rfl (fun ls hl => ?_)
  refine lv_iload_n hx hb dX10_atOf_24 rfl (lv_at hl 5 rfl) ?_
  by_cases hc11 : v3 = (0 : Int32)
  · have hF := (if_pos hc11).symm.trans hF
    refine lv_tableIn (off := 31) (tgt := 56) hx hb dX10_atOf_25 (by rw [hc11]; decide) (by rw [hc11]; decide) (by rw [hc11]; rfl) rfl ?_
    refine lv_aload_n hx hb dX10_atOf_56 rfl (lv_at hl 2 rfl) ?_
    refine gf10_22 Z hP wd_6_19 dX10_atOf_57 ?_
    refine lv_iload hx hb dX10_atOf_60 (lv_at hl 1 rfl) ?_
    obtain ⟨hi12, hF⟩ := ck_ok hF
    refine rM_ld Z hP 320 16 (by decide +kernel) hi12 dX10_atOf_62 ?_
    exact ret_I Z hr hlk hP hS hF dX10_atOf_63
  have hF := (if_neg hc11).symm.trans hF
  by_cases hc13 : v3 = (1 : Int32)
  · have hF := (if_pos hc13).symm.trans hF
    refine lv_tableIn (off := 39) (tgt := 64) hx hb dX10_atOf_25 (by rw [hc13]; decide) (by rw [hc13]; decide) (by rw [hc13]; rfl) rfl ?_
    refine lv_aload_n hx hb dX10_atOf_64 rfl (lv_at hl 2 rfl) ?_
    refine gf10_24 Z hP wd_6_21 dX10_atOf_65 ?_
    refine lv_iload hx hb dX10_atOf_68 (lv_at hl 1 rfl) ?_
    obtain ⟨hi14, hF⟩ := ck_ok hF
    refine rM_ld Z hP 320 18 (by decide +kernel) hi14 dX10_atOf_70 ?_
    exact ret_I Z hr hlk hP hS hF dX10_atOf_71
  have hF := (if_neg hc13).symm.trans hF
  by_cases hc15 : v3 = (2 : Int32)
  · have hF := (if_pos hc15).symm.trans hF
    refine lv_tableIn (off := 47) (tgt := 72) hx hb dX10_atOf_25 (by rw [hc15]; decide) (by rw [hc15]; decide) (by rw [hc15]; rfl) rfl ?_
    refine lv_aload_n hx hb dX10_atOf_72 rfl (lv_at hl 2 rfl) ?_
    refine gf10_24 Z hP wd_6_21 dX10_atOf_73 ?_
    refine lv_iload hx hb dX10_atOf_76 (lv_at hl 1 rfl) ?_
    obtain ⟨hi16, hF⟩ := ck_ok hF
    refine rM_ld Z hP 320 18 (by decide +kernel) hi16 dX10_atOf_78 ?_
    refine lv_if_ne (tgt := 86) hx hb dX10_atOf_79 rfl (fun hc => ?_) (fun hc => ?_)
    · have hF := (if_neg hc).symm.trans hF
      refine lv_aload_n hx hb dX10_atOf_86 rfl (lv_at hl 2 rfl) ?_
      refine gf10_10 Z hP wd_6_11 dX10_atOf_87 ?_
      refine lv_iload hx hb dX10_atOf_90 (lv_at hl 0 rfl) ?_
      obtain ⟨hi17, hF⟩ := ck_ok hF
      refine rM_ld Z hP 64 8 (by decide +kernel) hi17 dX10_atOf_92 ?_
      exact ret_I Z hr hlk hP hS hF dX10_atOf_93
    · have hF := (if_pos hc).symm.trans hF
      refine lv_iconst (v := (-1 : Int32)) hx hb dX10_atOf_82 ic_m1 ?_
      refine lv_goto (tgt := 93) hx hb dX10_atOf_83 rfl ?_
      exact ret_I Z hr hlk hP hS hF dX10_atOf_93
  have hF := (if_neg hc15).symm.trans hF
  by_cases hc18 : v3 = (3 : Int32)
  · have hF := (if_pos hc18).symm.trans hF
    refine lv_tableIn (off := 69) (tgt := 94) hx hb dX10_atOf_25 (by rw [hc18]; decide) (by rw [hc18]; decide) (by rw [hc18]; rfl) rfl ?_
    refine lv_aload_n hx hb dX10_atOf_94 rfl (lv_at hl 2 rfl) ?_
    refine gf10_24 Z hP wd_6_21 dX10_atOf_95 ?_
    refine lv_iload hx hb dX10_atOf_98 (lv_at hl 1 rfl) ?_
    obtain ⟨hi19, hF⟩ := ck_ok hF
    refine rM_ld Z hP 320 18 (by decide +kernel) hi19 dX10_atOf_100 ?_
    refine lv_if_ne (tgt := 108) hx hb dX10_atOf_101 rfl (fun hc => ?_) (fun hc => ?_)
    · have hF := (if_neg hc).symm.trans hF
      refine lv_aload_n hx hb dX10_atOf_108 rfl (lv_at hl 2 rfl) ?_
      refine gf10_10 Z hP wd_6_11 dX10_atOf_109 ?_
      refine lv_iload hx hb dX10_atOf_112 (lv_at hl 0 rfl) ?_
      refine lv_aload_n hx hb dX10_atOf_114 rfl (lv_at hl 2 rfl) ?_
      refine gf10_24 Z hP wd_6_21 dX10_atOf_115 ?_
      refine lv_iload hx hb dX10_atOf_118 (lv_at hl 1 rfl) ?_
      obtain ⟨hi20, hF⟩ := ck_ok hF
      refine rM_ld Z hP 320 18 (by decide +kernel) hi20 dX10_atOf_120 ?_
      refine lv_iadd hx hb dX10_atOf_121 ?_
      refine lv_iconst (v := (1 : Int32)) hx hb dX10_atOf_122 ic_1 ?_
      refine lv_isub hx hb dX10_atOf_123 ?_
      obtain ⟨hi21, hF⟩ := ck_ok hF
      refine rM_ld Z hP 64 8 (by decide +kernel) hi21 dX10_atOf_124 ?_
      exact ret_I Z hr hlk hP hS hF dX10_atOf_125
    · have hF := (if_pos hc).symm.trans hF
      refine lv_iconst (v := (-1 : Int32)) hx hb dX10_atOf_104 ic_m1 ?_
      refine lv_goto (tgt := 125) hx hb dX10_atOf_105 rfl ?_
      exact ret_I Z hr hlk hP hS hF dX10_atOf_125
  have hF := (if_neg hc18).symm.trans hF
  refine lv_tableOut (tgt := 126) hx hb dX10_atOf_25 (sw_4 hc11 hc13 hc15 hc18) rfl ?_
  refine lv_aload_n hx hb dX10_atOf_126 rfl (lv_at hl 2 rfl) ?_
  refine gf10_25 Z hP wd_6_22 dX10_atOf_127 ?_
  refine lv_iload hx hb dX10_atOf_130 (lv_at hl 1 rfl) ?_
  obtain ⟨hi22, hF⟩ := ck_ok hF
  refine rM_ld Z hP 320 19 (by decide +kernel) hi22 dX10_atOf_132 ?_
  exact ret_I Z hr hlk hP hS hF dX10_atOf_133
theorem xX10_atOf {p : Program} {l : Launch} {e : Env} {R : Room} {s : State} {m : MethodId} {args : Array Value} {below : List Frame} {meth : Method} {c : Code} {H : Heap} {locs : List Loc} {Q : State → Prop} {cc : ByteArray} {nL : Nat} {own : String} {g : GG} {pc index : Nat} {ls : Array Slot} {rest : List Value} {mc mm : Mem} (Z : ZZ p s m args c cc nL own g) (hP : va_P g.2.2.1 vwCl (wL g mc mm) H) (hS : va_S (AA g s.heap.size) s.heap H locs) {v1 : Int32} {v2 : Int32} {v3 : Int32} {q : Int32} (hq : F10_atOf v1 v2 v3 mm = some q) (hlk : Cond.methodLink own index yX10_atOf ∈ wsL_law) (hsz : ls.size = nL) (hro : (rest.map fun v => v.category).sum ≤ 8) (hR : 0 + 1 ≤ R.frames ∧ 8 + (6 + 11) + 0 ≤ R.locals) (hdg : decode cc pc = .ok (.invokevirtual index, 3)) (kk : ∀ (H : Heap) (locs : List Loc), va_P g.2.2.1 vwCl (wL g mc mm) H → va_S (AA g s.heap.size) s.heap H locs → W p l e R s m args below meth c H locs 0 0 Q (F0 m (pc + 3) ls (.int q :: rest))) : W p l e R s m args below meth c H locs 0 0 Q (F0 m pc ls (.int v3 :: .int v2 :: .int v1 :: .ref (g.1 108) :: rest)) :=
  x_VI Z hP hS (kX10_atOf l g v1 v2 v3 mc mm q hq) (mO) (ci := 10) (by decide) rfl rfl mf_X10_atOf mv_X10_atOf hlk rfl rfl hsz hro hR hdg kk
theorem dX10_at_0 : decode cX10_at 0 = .ok (.aload_n 0, 1) := by decide +kernel
theorem dX10_at_1 : decode cX10_at 1 = .ok (.invokevirtual 236, 3) := by decide +kernel
theorem dX10_at_4 : decode cX10_at 4 = .ok (.iload_n 1, 1) := by decide +kernel
theorem dX10_at_5 : decode cX10_at 5 = .ok (.invokestatic 175, 3) := by decide +kernel
theorem dX10_at_8 : decode cX10_at 8 = .ok (.ifCond .eq 33, 3) := by decide +kernel
theorem dX10_at_11 : decode cX10_at 11 = .ok (.aload_n 0, 1) := by decide +kernel
theorem dX10_at_12 : decode cX10_at 12 = .ok (.iload_n 2, 1) := by decide +kernel
theorem dX10_at_13 : decode cX10_at 13 = .ok (.invokevirtual 166, 3) := by decide +kernel
theorem dX10_at_16 : decode cX10_at 16 = .ok (.ifCond .eq 25, 3) := by decide +kernel
theorem dX10_at_19 : decode cX10_at 19 = .ok (.iload_n 3, 1) := by decide +kernel
theorem dX10_at_20 : decode cX10_at 20 = .ok (.i2l, 1) := by decide +kernel
theorem dX10_at_21 : decode cX10_at 21 = .ok (.lconst 0, 1) := by decide +kernel
theorem dX10_at_22 : decode cX10_at 22 = .ok (.ldc2_w 239, 3) := by decide +kernel
theorem dX10_at_25 : decode cX10_at 25 = .ok (.invokestatic 83, 3) := by decide +kernel
theorem dX10_at_28 : decode cX10_at 28 = .ok (.ifCond .eq 13, 3) := by decide +kernel
theorem dX10_at_31 : decode cX10_at 31 = .ok (.aload_n 0, 1) := by decide +kernel
theorem dX10_at_32 : decode cX10_at 32 = .ok (.iload_n 1, 1) := by decide +kernel
theorem dX10_at_33 : decode cX10_at 33 = .ok (.iload_n 2, 1) := by decide +kernel
theorem dX10_at_34 : decode cX10_at 34 = .ok (.iload_n 3, 1) := by decide +kernel
theorem dX10_at_35 : decode cX10_at 35 = .ok (.invokevirtual 241, 3) := by decide +kernel
theorem dX10_at_38 : decode cX10_at 38 = .ok (.goto 5, 3) := by decide +kernel
theorem dX10_at_41 : decode cX10_at 41 = .ok (.bipush (-2), 2) := by decide +kernel
theorem dX10_at_43 : decode cX10_at 43 = .ok (.ireturn, 1) := by decide +kernel
noncomputable def F10_at_b41 (v1 : Int32) (v2 : Int32) (v3 : Int32) (M : Mem) : Option (Int32 × Mem) :=
  some ((-2 : Int32), M)
noncomputable def F10_at (v1 : Int32) (v2 : Int32) (v3 : Int32) (mm : Mem) : Option (Int32 × Mem) :=
  ((F10_find mm).bind (fun q6 => ((F10_isHour v1).bind (fun q7 => (if q7 = (0 : Int32) then (F10_at_b41 v1 v2 v3) q6 else ((F10_isSaying v2 q6).bind (fun q8 => (if q8 = (0 : Int32) then (F10_at_b41 v1 v2 v3) q6 else ((F10_in v3.toInt64 (0 : Int64) (4 : Int64)).bind (fun q9 => (if q9 = (0 : Int32) then (F10_at_b41 v1 v2 v3) q6 else ((F10_atOf v1 v2 v3 q6).bind (fun q10 => (some (q10, q6)))))))))))))))
set_option maxHeartbeats 4000000 in
set_option maxRecDepth 100000 in
theorem kX10_at (l : Launch) (g : GG) (v1 : Int32) (v2 : Int32) (v3 : Int32) (mc mm : Mem) (q : Int32 × Mem) (hF : F10_at v1 v2 v3 mm = some q) : KI l yX10_at cX10_at 4 .int 7 159 g [.ref (g.1 108), .int v1, .int v2, .int v3] mc mm q.1 (mc, q.2) := by
  intro sz
  refine x_start (Qc := fun z => QI g z q.1 (mc, q.2)) (by decide +kernel) (Nat.le_of_ble_eq_true rfl) ?_ sz
  intro p e s m args below meth c ls Z hr hlk hP hl
  have hx := Z.1.1
  have hb := Z.1.2.1
  have hown := Z.1.2.2.2.1
  have hts := Z.1.2.2.2.2
  have hS : va_S (AA g s.heap.size) s.heap s.heap [] := va_S.rf
  have hl : lv_has ls 4 [(0, .ref (g.1 108)), (1, .int v1), (2, .int v2), (3, .int v3)] := hl
  unfold F10_at at hF
  have hb41 : ∀  (M : Mem), F10_at_b41 v1 v2 v3 M = some q → ∀ (H : Heap) (locs : List Loc) (ls : Array Slot), lv_has ls 4 [] → va_P g.2.2.1 vwCl (wL g mc M) H → va_S (AA g s.heap.size) s.heap H locs → W p l e { frames := 7, cells := 0, slots := 0, locals := 159 } s m args below meth c H locs 0 0 (MQ below (QI g s.heap.size q.1 (mc, q.2)) args s 0 0 (AA g s.heap.size)) (F0 m 41 ls []) := by
    intro M hF H locs ls hl hP hS
    unfold F10_at_b41 at hF
    refine lv_bipush (v := (-2 : Int32)) hx hb dX10_at_41 bp_m2 ?_
    exact ret_IWM Z hr hlk hP hS hF dX10_at_43
  refine lv_aload_n hx hb dX10_at_0 rfl (lv_at hl 0 rfl) ?_
  obtain ⟨q6, hq6, hF⟩ := bd_ok hF
  refine xX10_find Z hP hS hq6 wd_22_5 hl.1 (Nat.le_of_ble_eq_true rfl) ⟨Nat.le_of_ble_eq_true rfl, Nat.le_of_ble_eq_true rfl⟩ dX10_at_1 (fun H locs hP hS => ?_)
  refine lv_iload_n hx hb dX10_at_4 rfl (lv_at hl 1 rfl) ?_
  obtain ⟨q7, hq7, hF⟩ := bd_ok hF
  refine xX10_isHour Z hP hS hq7 wd_18_5 hl.1 (Nat.le_of_ble_eq_true rfl) ⟨Nat.le_of_ble_eq_true rfl, Nat.le_of_ble_eq_true rfl⟩ dX10_at_5 (fun H locs hP hS => ?_)
  refine lv_if_eq (tgt := 41) hx hb dX10_at_8 rfl (fun hc => ?_) (fun hc => ?_)
  · have hF := (if_pos hc).symm.trans hF
    exact hb41 _ hF _ _ _ (lv_sub hl [] rfl) hP hS
  · have hF := (if_neg hc).symm.trans hF
    refine lv_aload_n hx hb dX10_at_11 rfl (lv_at hl 0 rfl) ?_
    refine lv_iload_n hx hb dX10_at_12 rfl (lv_at hl 2 rfl) ?_
    obtain ⟨q8, hq8, hF⟩ := bd_ok hF
    refine xX10_isSaying Z hP hS hq8 wd_17_3 hl.1 (Nat.le_of_ble_eq_true rfl) ⟨Nat.le_of_ble_eq_true rfl, Nat.le_of_ble_eq_true rfl⟩ dX10_at_13 (fun H locs hP hS => ?_)
    refine lv_if_eq (tgt := 41) hx hb dX10_at_16 rfl (fun hc => ?_) (fun hc => ?_)
    · have hF := (if_pos hc).symm.trans hF
      exact hb41 _ hF _ _ _ (lv_sub hl [] rfl) hP hS
    · have hF := (if_neg hc).symm.trans hF
      refine lv_iload_n hx hb dX10_at_19 rfl (lv_at hl 3 rfl) ?_
      refine lv_i2l (v := v3.toInt64) hx hb dX10_at_20 rfl ?_
      refine lv_lconst (v := (0 : Int64)) hx hb dX10_at_21 lc_0 ?_
      refine lv_ldc2 (v := (4 : Int64)) hx hb hown (hts _ wd_22_4) dX10_at_22 ?_
      obtain ⟨q9, hq9, hF⟩ := bd_ok hF
      refine xX10_in Z hP hS hq9 wd_13_8 hl.1 (Nat.le_of_ble_eq_true rfl) ⟨Nat.le_of_ble_eq_true rfl, Nat.le_of_ble_eq_true rfl⟩ dX10_at_25 (fun H locs hP hS => ?_)
      refine lv_if_eq (tgt := 41) hx hb dX10_at_28 rfl (fun hc => ?_) (fun hc => ?_)
      · have hF := (if_pos hc).symm.trans hF
        exact hb41 _ hF _ _ _ (lv_sub hl [] rfl) hP hS
      · have hF := (if_neg hc).symm.trans hF
        refine lv_aload_n hx hb dX10_at_31 rfl (lv_at hl 0 rfl) ?_
        refine lv_iload_n hx hb dX10_at_32 rfl (lv_at hl 1 rfl) ?_
        refine lv_iload_n hx hb dX10_at_33 rfl (lv_at hl 2 rfl) ?_
        refine lv_iload_n hx hb dX10_at_34 rfl (lv_at hl 3 rfl) ?_
        obtain ⟨q10, hq10, hF⟩ := bd_ok hF
        refine xX10_atOf Z hP hS hq10 wd_24_14 hl.1 (Nat.le_of_ble_eq_true rfl) ⟨Nat.le_of_ble_eq_true rfl, Nat.le_of_ble_eq_true rfl⟩ dX10_at_35 (fun H locs hP hS => ?_)
        refine lv_goto (tgt := 43) hx hb dX10_at_38 rfl ?_
        exact ret_IWM Z hr hlk hP hS hF dX10_at_43
theorem xX10_at {p : Program} {l : Launch} {e : Env} {R : Room} {s : State} {m : MethodId} {args : Array Value} {below : List Frame} {meth : Method} {c : Code} {H : Heap} {locs : List Loc} {Q : State → Prop} {cc : ByteArray} {nL : Nat} {own : String} {g : GG} {pc index : Nat} {ls : Array Slot} {rest : List Value} {mc mm : Mem} (Z : ZZ p s m args c cc nL own g) (hP : va_P g.2.2.1 vwCl (wL g mc mm) H) (hS : va_S (AA g s.heap.size) s.heap H locs) {v1 : Int32} {v2 : Int32} {v3 : Int32} {q : Int32 × Mem} (hq : F10_at v1 v2 v3 mm = some q) (hlk : Cond.methodLink own index yX10_at ∈ wsL_law) (hsz : ls.size = nL) (hro : (rest.map fun v => v.category).sum ≤ 8) (hR : 7 + 1 ≤ R.frames ∧ 8 + (4 + 11) + 159 ≤ R.locals) (hdg : decode cc pc = .ok (.invokevirtual index, 3)) (kk : ∀ (H : Heap) (locs : List Loc), va_P g.2.2.1 vwCl (wL g mc q.2) H → va_S (AA g s.heap.size) s.heap H locs → W p l e R s m args below meth c H locs 0 0 Q (F0 m (pc + 3) ls (.int q.1 :: rest))) : W p l e R s m args below meth c H locs 0 0 Q (F0 m pc ls (.int v3 :: .int v2 :: .int v1 :: .ref (g.1 108) :: rest)) :=
  x_VI Z hP hS (kX10_at l g v1 v2 v3 mc mm q hq) (mO) (ci := 10) (by decide) rfl rfl mf_X10_at mv_X10_at hlk rfl rfl hsz hro hR hdg kk
theorem dX10_heardAt_0 : decode cX10_heardAt 0 = .ok (.iconst (-1), 1) := by decide +kernel
theorem dX10_heardAt_1 : decode cX10_heardAt 1 = .ok (.istore_n 3, 1) := by decide +kernel
theorem dX10_heardAt_2 : decode cX10_heardAt 2 = .ok (.bipush 39, 2) := by decide +kernel
theorem dX10_heardAt_4 : decode cX10_heardAt 4 = .ok (.istore 4, 2) := by decide +kernel
theorem dX10_heardAt_6 : decode cX10_heardAt 6 = .ok (.iload 4, 2) := by decide +kernel
theorem dX10_heardAt_8 : decode cX10_heardAt 8 = .ok (.ifCond .lt 48, 3) := by decide +kernel
theorem dX10_heardAt_11 : decode cX10_heardAt 11 = .ok (.aload_n 0, 1) := by decide +kernel
theorem dX10_heardAt_12 : decode cX10_heardAt 12 = .ok (.getfield 65, 3) := by decide +kernel
theorem dX10_heardAt_15 : decode cX10_heardAt 15 = .ok (.bipush 8, 2) := by decide +kernel
theorem dX10_heardAt_17 : decode cX10_heardAt 17 = .ok (.iload 4, 2) := by decide +kernel
theorem dX10_heardAt_19 : decode cX10_heardAt 19 = .ok (.imul, 1) := by decide +kernel
theorem dX10_heardAt_20 : decode cX10_heardAt 20 = .ok (.iload_n 1, 1) := by decide +kernel
theorem dX10_heardAt_21 : decode cX10_heardAt 21 = .ok (.iadd, 1) := by decide +kernel
theorem dX10_heardAt_22 : decode cX10_heardAt 22 = .ok (.iaload, 1) := by decide +kernel
theorem dX10_heardAt_23 : decode cX10_heardAt 23 = .ok (.iconst 1, 1) := by decide +kernel
theorem dX10_heardAt_24 : decode cX10_heardAt 24 = .ok (.if_icmp .ne 24, 3) := by decide +kernel
theorem dX10_heardAt_27 : decode cX10_heardAt 27 = .ok (.aload_n 0, 1) := by decide +kernel
theorem dX10_heardAt_28 : decode cX10_heardAt 28 = .ok (.getfield 56, 3) := by decide +kernel
theorem dX10_heardAt_31 : decode cX10_heardAt 31 = .ok (.bipush 8, 2) := by decide +kernel
theorem dX10_heardAt_33 : decode cX10_heardAt 33 = .ok (.iload 4, 2) := by decide +kernel
theorem dX10_heardAt_35 : decode cX10_heardAt 35 = .ok (.imul, 1) := by decide +kernel
theorem dX10_heardAt_36 : decode cX10_heardAt 36 = .ok (.iload_n 1, 1) := by decide +kernel
theorem dX10_heardAt_37 : decode cX10_heardAt 37 = .ok (.iadd, 1) := by decide +kernel
theorem dX10_heardAt_38 : decode cX10_heardAt 38 = .ok (.iaload, 1) := by decide +kernel
theorem dX10_heardAt_39 : decode cX10_heardAt 39 = .ok (.iload_n 2, 1) := by decide +kernel
theorem dX10_heardAt_40 : decode cX10_heardAt 40 = .ok (.if_icmp .ne 8, 3) := by decide +kernel
theorem dX10_heardAt_43 : decode cX10_heardAt 43 = .ok (.iload 4, 2) := by decide +kernel
theorem dX10_heardAt_45 : decode cX10_heardAt 45 = .ok (.goto 4, 3) := by decide +kernel
theorem dX10_heardAt_48 : decode cX10_heardAt 48 = .ok (.iload_n 3, 1) := by decide +kernel
theorem dX10_heardAt_49 : decode cX10_heardAt 49 = .ok (.istore_n 3, 1) := by decide +kernel
theorem dX10_heardAt_50 : decode cX10_heardAt 50 = .ok (.iinc 4 (-1), 3) := by decide +kernel
theorem dX10_heardAt_53 : decode cX10_heardAt 53 = .ok (.goto (-47), 3) := by decide +kernel
theorem dX10_heardAt_56 : decode cX10_heardAt 56 = .ok (.iload_n 3, 1) := by decide +kernel
theorem dX10_heardAt_57 : decode cX10_heardAt 57 = .ok (.ireturn, 1) := by decide +kernel
noncomputable def F10_heardAt_b49 (kh : Int32 → Int32 → Option (Int32)) (v1 : Int32) (v2 : Int32) (mm : Mem) (a4 : Int32) (s0 : Int32) : Option (Int32) :=
  kh s0 (a4 + (-1 : Int32))
noncomputable def F10_heardAt_b48 (kh : Int32 → Int32 → Option (Int32)) (v1 : Int32) (v2 : Int32) (mm : Mem) (a3 : Int32) (a4 : Int32) : Option (Int32) :=
  (F10_heardAt_b49 kh v1 v2 mm) a4 a3
noncomputable def F10_heardAt_p6 (kh : Int32 → Int32 → Option (Int32)) (v1 : Int32) (v2 : Int32) (mm : Mem) (a3 : Int32) (a4 : Int32) : Option (Int32) :=
  (if a4 < (0 : Int32) then some a3 else (ck (((8 : Int32) * a4) + v1) 320 (if (mm 19 (((8 : Int32) * a4) + v1).toNatClampNeg) = (1 : Int32) then (ck (((8 : Int32) * a4) + v1) 320 (if (mm 16 (((8 : Int32) * a4) + v1).toNatClampNeg) = v2 then (F10_heardAt_b49 kh v1 v2 mm) a4 a4 else (F10_heardAt_b48 kh v1 v2 mm) a3 a4)) else (F10_heardAt_b48 kh v1 v2 mm) a3 a4)))
noncomputable def F10_heardAt_h6 (v1 : Int32) (v2 : Int32) (mm : Mem) : Nat → Int32 → Int32 → Option (Int32)
  | 0, _, _ => none
  | n + 1, a3, a4 => F10_heardAt_p6 (F10_heardAt_h6 v1 v2 mm n) v1 v2 mm a3 a4
noncomputable def F10_heardAt (v1 : Int32) (v2 : Int32) (mm : Mem) : Option (Int32) :=
  (F10_heardAt_h6 v1 v2 mm FU) (-1 : Int32) (39 : Int32)
set_option maxHeartbeats 4000000 in
set_option maxRecDepth 100000 in
theorem kX10_heardAt (l : Launch) (g : GG) (v1 : Int32) (v2 : Int32) (mc mm : Mem) (q : Int32) (hF : F10_heardAt v1 v2 mm = some q) : KI l yX10_heardAt cX10_heardAt 5 .int 0 0 g [.ref (g.1 108), .int v1, .int v2] mc mm q (mc, mm) := by
  intro sz
  refine x_start (Qc := fun z => QI g z q (mc, mm)) (by decide +kernel) (Nat.le_of_ble_eq_true rfl) ?_ sz
  intro p e s m args below meth c ls Z hr hlk hP hl
  have hx := Z.1.1
  have hb := Z.1.2.1
  have hown := Z.1.2.2.2.1
  have hts := Z.1.2.2.2.2
  have hS : va_S (AA g s.heap.size) s.heap s.heap [] := va_S.rf
  have hl : lv_has ls 5 [(0, .ref (g.1 108)), (1, .int v1), (2, .int v2)] := hl
  unfold F10_heardAt at hF
  have hL6 : ∀ n : Nat, ∀ (a3 : Int32) (a4 : Int32), F10_heardAt_h6 v1 v2 mm n a3 a4 = some q → ∀ (H : Heap) (locs : List Loc) (ls : Array Slot), lv_has ls 5 [(0, .ref (g.1 108)), (1, .int v1), (2, .int v2), (3, .int a3), (4, .int a4)] → va_P g.2.2.1 vwCl (wL g mc mm) H → va_S (AA g s.heap.size) s.heap H locs → W p l e { frames := 0, cells := 0, slots := 0, locals := 0 } s m args below meth c H locs 0 0 (MQ below (QI g s.heap.size q (mc, mm)) args s 0 0 (AA g s.heap.size)) (F0 m 6 ls []) := by
    intro n
    induction n with
    | zero => intro a3 a4 hF H locs ls hl hP hS; exact absurd hF (fun z => nomatch (show (none : Option _) = some q from z))
    | succ n ih =>
      generalize hkh : F10_heardAt_h6 v1 v2 mm n = kh at ih
      have hb49 : ∀ (a4 : Int32) (s0 : Int32), F10_heardAt_b49 kh v1 v2 mm a4 s0 = some q → ∀ (H : Heap) (locs : List Loc) (ls : Array Slot), lv_has ls 5 [(0, .ref (g.1 108)), (1, .int v1), (2, .int v2), (4, .int a4)] → va_P g.2.2.1 vwCl (wL g mc mm) H → va_S (AA g s.heap.size) s.heap H locs → W p l e { frames := 0, cells := 0, slots := 0, locals := 0 } s m args below meth c H locs 0 0 (MQ below (QI g s.heap.size q (mc, mm)) args s 0 0 (AA g s.heap.size)) (F0 m 49 ls [.int s0]) := by
        intro a4 s0 hF H locs ls hl hP hS
        unfold F10_heardAt_b49 at hF
        refine lv_istore_n (lv' := [(3, .int s0), (0, .ref (g.1 108)), (1, .int v1), (2, .int v2), (4, .int a4)]) hx hb dX10_heardAt_49 rfl hl (Nat.le_of_ble_eq_true rfl) rfl (fun ls hl => ?_)
        refine lv_iinc (lv' := [(4, .int (a4 + (-1 : Int32))), (3, .int s0), (0, .ref (g.1 108)), (1, .int v1), (2, .int v2)]) (v := (a4 + (-1 : Int32))) hx hb dX10_heardAt_50 hl (k := 4) rfl (io_m1 _) (Nat.le_of_ble_eq_true rfl) rfl (fun ls hl => ?_)
        refine lv_goto (tgt := 6) hx hb dX10_heardAt_53 rfl ?_
        exact ih _ _ hF _ _ _ (lv_sub hl [2, 3, 4, 1, 0] rfl) hP hS
      have hb48 : ∀ (a3 : Int32) (a4 : Int32), F10_heardAt_b48 kh v1 v2 mm a3 a4 = some q → ∀ (H : Heap) (locs : List Loc) (ls : Array Slot), lv_has ls 5 [(0, .ref (g.1 108)), (1, .int v1), (2, .int v2), (3, .int a3), (4, .int a4)] → va_P g.2.2.1 vwCl (wL g mc mm) H → va_S (AA g s.heap.size) s.heap H locs → W p l e { frames := 0, cells := 0, slots := 0, locals := 0 } s m args below meth c H locs 0 0 (MQ below (QI g s.heap.size q (mc, mm)) args s 0 0 (AA g s.heap.size)) (F0 m 48 ls []) := by
        intro a3 a4 hF H locs ls hl hP hS
        unfold F10_heardAt_b48 at hF
        refine lv_iload_n hx hb dX10_heardAt_48 rfl (lv_at hl 3 rfl) ?_
        exact hb49 _ _ hF _ _ _ (lv_sub hl [0, 1, 2, 4] rfl) hP hS
      intro a3 a4 hF H locs ls hl hP hS
      have hF : F10_heardAt_p6 (F10_heardAt_h6 v1 v2 mm n) v1 v2 mm a3 a4 = some q := hF
      rw [hkh] at hF
      unfold F10_heardAt_p6 at hF
      refine lv_iload hx hb dX10_heardAt_6 (lv_at hl 4 rfl) ?_
      refine lv_if_lt (tgt := 56) hx hb dX10_heardAt_8 rfl (fun hc => ?_) (fun hc => ?_)
      · have hF := (if_pos hc).symm.trans hF
        refine lv_iload_n hx hb dX10_heardAt_56 rfl (lv_at hl 3 rfl) ?_
        exact ret_I Z hr hlk hP hS hF dX10_heardAt_57
      · have hF := (if_neg hc).symm.trans hF
        refine lv_aload_n hx hb dX10_heardAt_11 rfl (lv_at hl 0 rfl) ?_
        refine gf10_25 Z hP wd_6_22 dX10_heardAt_12 ?_
        refine lv_bipush (v := (8 : Int32)) hx hb dX10_heardAt_15 bp_8 ?_
        refine lv_iload hx hb dX10_heardAt_17 (lv_at hl 4 rfl) ?_
        refine lv_imul hx hb dX10_heardAt_19 ?_
        refine lv_iload_n hx hb dX10_heardAt_20 rfl (lv_at hl 1 rfl) ?_
        refine lv_iadd hx hb dX10_heardAt_21 ?_
        obtain ⟨hi3, hF⟩ := ck_ok hF
        refine rM_ld Z hP 320 19 (by decide +kernel) hi3 dX10_heardAt_22 ?_
        refine lv_iconst (v := (1 : Int32)) hx hb dX10_heardAt_23 ic_1 ?_
        refine lv_icmp_ne (tgt := 48) hx hb dX10_heardAt_24 rfl (fun hc => ?_) (fun hc => ?_)
        · have hF := (if_neg hc).symm.trans hF
          exact hb48 _ _ hF _ _ _ (lv_sub hl [0, 1, 2, 3, 4] rfl) hP hS
        · have hF := (if_pos hc).symm.trans hF
          refine lv_aload_n hx hb dX10_heardAt_27 rfl (lv_at hl 0 rfl) ?_
          refine gf10_22 Z hP wd_6_19 dX10_heardAt_28 ?_
          refine lv_bipush (v := (8 : Int32)) hx hb dX10_heardAt_31 bp_8 ?_
          refine lv_iload hx hb dX10_heardAt_33 (lv_at hl 4 rfl) ?_
          refine lv_imul hx hb dX10_heardAt_35 ?_
          refine lv_iload_n hx hb dX10_heardAt_36 rfl (lv_at hl 1 rfl) ?_
          refine lv_iadd hx hb dX10_heardAt_37 ?_
          obtain ⟨hi4, hF⟩ := ck_ok hF
          refine rM_ld Z hP 320 16 (by decide +kernel) hi4 dX10_heardAt_38 ?_
          refine lv_iload_n hx hb dX10_heardAt_39 rfl (lv_at hl 2 rfl) ?_
          refine lv_icmp_ne (tgt := 48) hx hb dX10_heardAt_40 rfl (fun hc => ?_) (fun hc => ?_)
          · have hF := (if_neg hc).symm.trans hF
            exact hb48 _ _ hF _ _ _ (lv_sub hl [0, 1, 2, 3, 4] rfl) hP hS
          · have hF := (if_pos hc).symm.trans hF
            refine lv_iload hx hb dX10_heardAt_43 (lv_at hl 4 rfl) ?_
            refine lv_goto (tgt := 49) hx hb dX10_heardAt_45 rfl ?_
            exact hb49 _ _ hF _ _ _ (lv_sub hl [0, 1, 2, 4] rfl) hP hS
  refine lv_iconst (v := (-1 : Int32)) hx hb dX10_heardAt_0 ic_m1 ?_
  refine lv_istore_n (lv' := [(3, .int (-1 : Int32)), (0, .ref (g.1 108)), (1, .int v1), (2, .int v2)]) hx hb dX10_heardAt_1 rfl hl (Nat.le_of_ble_eq_true rfl) rfl (fun ls hl => ?_)
  refine lv_bipush (v := (39 : Int32)) hx hb dX10_heardAt_2 bp_39 ?_
  refine lv_istore (lv' := [(4, .int (39 : Int32)), (3, .int (-1 : Int32)), (0, .ref (g.1 108)), (1, .int v1), (2, .int v2)]) hx hb dX10_heardAt_4 hl (Nat.le_of_ble_eq_true rfl) rfl (fun ls hl => ?_)
  exact (hL6 FU) _ _ hF _ _ _ (lv_sub hl [2, 3, 4, 1, 0] rfl) hP hS
theorem xX10_heardAt {p : Program} {l : Launch} {e : Env} {R : Room} {s : State} {m : MethodId} {args : Array Value} {below : List Frame} {meth : Method} {c : Code} {H : Heap} {locs : List Loc} {Q : State → Prop} {cc : ByteArray} {nL : Nat} {own : String} {g : GG} {pc index : Nat} {ls : Array Slot} {rest : List Value} {mc mm : Mem} (Z : ZZ p s m args c cc nL own g) (hP : va_P g.2.2.1 vwCl (wL g mc mm) H) (hS : va_S (AA g s.heap.size) s.heap H locs) {v1 : Int32} {v2 : Int32} {q : Int32} (hq : F10_heardAt v1 v2 mm = some q) (hlk : Cond.methodLink own index yX10_heardAt ∈ wsL_law) (hsz : ls.size = nL) (hro : (rest.map fun v => v.category).sum ≤ 8) (hR : 0 + 1 ≤ R.frames ∧ 8 + (5 + 11) + 0 ≤ R.locals) (hdg : decode cc pc = .ok (.invokevirtual index, 3)) (kk : ∀ (H : Heap) (locs : List Loc), va_P g.2.2.1 vwCl (wL g mc mm) H → va_S (AA g s.heap.size) s.heap H locs → W p l e R s m args below meth c H locs 0 0 Q (F0 m (pc + 3) ls (.int q :: rest))) : W p l e R s m args below meth c H locs 0 0 Q (F0 m pc ls (.int v2 :: .int v1 :: .ref (g.1 108) :: rest)) :=
  x_VI Z hP hS (kX10_heardAt l g v1 v2 mc mm q hq) (mO) (ci := 10) (by decide) rfl rfl mf_X10_heardAt mv_X10_heardAt hlk rfl rfl hsz hro hR hdg kk

theorem dX10_dayOf_0 : decode cX10_dayOf 0 = .ok (.aload_n 0, 1) := by decide +kernel
theorem dX10_dayOf_1 : decode cX10_dayOf 1 = .ok (.getfield 172, 3) := by decide +kernel
theorem dX10_dayOf_4 : decode cX10_dayOf 4 = .ok (.istore 4, 2) := by decide +kernel
theorem dX10_dayOf_6 : decode cX10_dayOf 6 = .ok (.iconst 0, 1) := by decide +kernel
theorem dX10_dayOf_7 : decode cX10_dayOf 7 = .ok (.istore 5, 2) := by decide +kernel
theorem dX10_dayOf_9 : decode cX10_dayOf 9 = .ok (.iload 5, 2) := by decide +kernel
theorem dX10_dayOf_11 : decode cX10_dayOf 11 = .ok (.bipush 24, 2) := by decide +kernel
theorem dX10_dayOf_13 : decode cX10_dayOf 13 = .ok (.if_icmp .ge 23, 3) := by decide +kernel
theorem dX10_dayOf_16 : decode cX10_dayOf 16 = .ok (.aload_n 0, 1) := by decide +kernel
theorem dX10_dayOf_17 : decode cX10_dayOf 17 = .ok (.getfield 74, 3) := by decide +kernel
theorem dX10_dayOf_20 : decode cX10_dayOf 20 = .ok (.iload 5, 2) := by decide +kernel
theorem dX10_dayOf_22 : decode cX10_dayOf 22 = .ok (.aload_n 0, 1) := by decide +kernel
theorem dX10_dayOf_23 : decode cX10_dayOf 23 = .ok (.getfield 34, 3) := by decide +kernel
theorem dX10_dayOf_26 : decode cX10_dayOf 26 = .ok (.iload 5, 2) := by decide +kernel
theorem dX10_dayOf_28 : decode cX10_dayOf 28 = .ok (.iaload, 1) := by decide +kernel
theorem dX10_dayOf_29 : decode cX10_dayOf 29 = .ok (.iastore, 1) := by decide +kernel
theorem dX10_dayOf_30 : decode cX10_dayOf 30 = .ok (.iinc 5 1, 3) := by decide +kernel
theorem dX10_dayOf_33 : decode cX10_dayOf 33 = .ok (.goto (-24), 3) := by decide +kernel
theorem dX10_dayOf_36 : decode cX10_dayOf 36 = .ok (.aload_n 0, 1) := by decide +kernel
theorem dX10_dayOf_37 : decode cX10_dayOf 37 = .ok (.iload_n 1, 1) := by decide +kernel
theorem dX10_dayOf_38 : decode cX10_dayOf 38 = .ok (.putfield 331, 3) := by decide +kernel
theorem dX10_dayOf_41 : decode cX10_dayOf 41 = .ok (.aload_n 0, 1) := by decide +kernel
theorem dX10_dayOf_42 : decode cX10_dayOf 42 = .ok (.iconst 0, 1) := by decide +kernel
theorem dX10_dayOf_43 : decode cX10_dayOf 43 = .ok (.putfield 172, 3) := by decide +kernel
theorem dX10_dayOf_46 : decode cX10_dayOf 46 = .ok (.iconst 0, 1) := by decide +kernel
theorem dX10_dayOf_47 : decode cX10_dayOf 47 = .ok (.istore 5, 2) := by decide +kernel
theorem dX10_dayOf_49 : decode cX10_dayOf 49 = .ok (.iload 5, 2) := by decide +kernel
theorem dX10_dayOf_51 : decode cX10_dayOf 51 = .ok (.iload_n 2, 1) := by decide +kernel
theorem dX10_dayOf_52 : decode cX10_dayOf 52 = .ok (.if_icmp .ge 47, 3) := by decide +kernel
theorem dX10_dayOf_55 : decode cX10_dayOf 55 = .ok (.aload_n 0, 1) := by decide +kernel
theorem dX10_dayOf_56 : decode cX10_dayOf 56 = .ok (.getfield 120, 3) := by decide +kernel
theorem dX10_dayOf_59 : decode cX10_dayOf 59 = .ok (.ifCond .le 40, 3) := by decide +kernel
theorem dX10_dayOf_62 : decode cX10_dayOf 62 = .ok (.aload_n 0, 1) := by decide +kernel
theorem dX10_dayOf_63 : decode cX10_dayOf 63 = .ok (.iconst 3, 1) := by decide +kernel
theorem dX10_dayOf_64 : decode cX10_dayOf 64 = .ok (.invokevirtual 334, 3) := by decide +kernel
theorem dX10_dayOf_67 : decode cX10_dayOf 67 = .ok (.istore 6, 2) := by decide +kernel
theorem dX10_dayOf_69 : decode cX10_dayOf 69 = .ok (.aload_n 0, 1) := by decide +kernel
theorem dX10_dayOf_70 : decode cX10_dayOf 70 = .ok (.bipush 40, 2) := by decide +kernel
theorem dX10_dayOf_72 : decode cX10_dayOf 72 = .ok (.invokevirtual 334, 3) := by decide +kernel
theorem dX10_dayOf_75 : decode cX10_dayOf 75 = .ok (.istore 7, 2) := by decide +kernel
theorem dX10_dayOf_77 : decode cX10_dayOf 77 = .ok (.aload_n 0, 1) := by decide +kernel
theorem dX10_dayOf_78 : decode cX10_dayOf 78 = .ok (.iload 6, 2) := by decide +kernel
theorem dX10_dayOf_80 : decode cX10_dayOf 80 = .ok (.iload 7, 2) := by decide +kernel
theorem dX10_dayOf_82 : decode cX10_dayOf 82 = .ok (.aload_n 0, 1) := by decide +kernel
theorem dX10_dayOf_83 : decode cX10_dayOf 83 = .ok (.aload_n 0, 1) := by decide +kernel
theorem dX10_dayOf_84 : decode cX10_dayOf 84 = .ok (.getfield 120, 3) := by decide +kernel
theorem dX10_dayOf_87 : decode cX10_dayOf 87 = .ok (.invokevirtual 334, 3) := by decide +kernel
theorem dX10_dayOf_90 : decode cX10_dayOf 90 = .ok (.invokevirtual 181, 3) := by decide +kernel
theorem dX10_dayOf_93 : decode cX10_dayOf 93 = .ok (.iinc 5 1, 3) := by decide +kernel
theorem dX10_dayOf_96 : decode cX10_dayOf 96 = .ok (.goto (-47), 3) := by decide +kernel
theorem dX10_dayOf_99 : decode cX10_dayOf 99 = .ok (.aload_n 0, 1) := by decide +kernel
theorem dX10_dayOf_100 : decode cX10_dayOf 100 = .ok (.invokevirtual 233, 3) := by decide +kernel
theorem dX10_dayOf_103 : decode cX10_dayOf 103 = .ok (.iconst 0, 1) := by decide +kernel
theorem dX10_dayOf_104 : decode cX10_dayOf 104 = .ok (.istore 5, 2) := by decide +kernel
theorem dX10_dayOf_106 : decode cX10_dayOf 106 = .ok (.iload 5, 2) := by decide +kernel
theorem dX10_dayOf_108 : decode cX10_dayOf 108 = .ok (.bipush 24, 2) := by decide +kernel
theorem dX10_dayOf_110 : decode cX10_dayOf 110 = .ok (.if_icmp .ge 23, 3) := by decide +kernel
theorem dX10_dayOf_113 : decode cX10_dayOf 113 = .ok (.aload_n 0, 1) := by decide +kernel
theorem dX10_dayOf_114 : decode cX10_dayOf 114 = .ok (.getfield 34, 3) := by decide +kernel
theorem dX10_dayOf_117 : decode cX10_dayOf 117 = .ok (.iload 5, 2) := by decide +kernel
theorem dX10_dayOf_119 : decode cX10_dayOf 119 = .ok (.aload_n 0, 1) := by decide +kernel
theorem dX10_dayOf_120 : decode cX10_dayOf 120 = .ok (.getfield 74, 3) := by decide +kernel
theorem dX10_dayOf_123 : decode cX10_dayOf 123 = .ok (.iload 5, 2) := by decide +kernel
theorem dX10_dayOf_125 : decode cX10_dayOf 125 = .ok (.iaload, 1) := by decide +kernel
theorem dX10_dayOf_126 : decode cX10_dayOf 126 = .ok (.iastore, 1) := by decide +kernel
theorem dX10_dayOf_127 : decode cX10_dayOf 127 = .ok (.iinc 5 1, 3) := by decide +kernel
theorem dX10_dayOf_130 : decode cX10_dayOf 130 = .ok (.goto (-24), 3) := by decide +kernel
theorem dX10_dayOf_133 : decode cX10_dayOf 133 = .ok (.aload_n 0, 1) := by decide +kernel
theorem dX10_dayOf_134 : decode cX10_dayOf 134 = .ok (.iload 4, 2) := by decide +kernel
theorem dX10_dayOf_136 : decode cX10_dayOf 136 = .ok (.putfield 172, 3) := by decide +kernel
theorem dX10_dayOf_139 : decode cX10_dayOf 139 = .ok (.iload_n 3, 1) := by decide +kernel
theorem dX10_dayOf_140 : decode cX10_dayOf 140 = .ok (.ifCond .ne 13, 3) := by decide +kernel
theorem dX10_dayOf_143 : decode cX10_dayOf 143 = .ok (.aload_n 0, 1) := by decide +kernel
theorem dX10_dayOf_144 : decode cX10_dayOf 144 = .ok (.invokevirtual 253, 3) := by decide +kernel
theorem dX10_dayOf_147 : decode cX10_dayOf 147 = .ok (.invokestatic 262, 3) := by decide +kernel
theorem dX10_dayOf_150 : decode cX10_dayOf 150 = .ok (.goto 25, 3) := by decide +kernel
theorem dX10_dayOf_153 : decode cX10_dayOf 153 = .ok (.aload_n 0, 1) := by decide +kernel
theorem dX10_dayOf_154 : decode cX10_dayOf 154 = .ok (.getfield 120, 3) := by decide +kernel
theorem dX10_dayOf_157 : decode cX10_dayOf 157 = .ok (.ifCond .ne 7, 3) := by decide +kernel
theorem dX10_dayOf_160 : decode cX10_dayOf 160 = .ok (.iconst 0, 1) := by decide +kernel
theorem dX10_dayOf_161 : decode cX10_dayOf 161 = .ok (.goto 14, 3) := by decide +kernel
theorem dX10_dayOf_164 : decode cX10_dayOf 164 = .ok (.aload_n 0, 1) := by decide +kernel
theorem dX10_dayOf_165 : decode cX10_dayOf 165 = .ok (.aload_n 0, 1) := by decide +kernel
theorem dX10_dayOf_166 : decode cX10_dayOf 166 = .ok (.invokevirtual 215, 3) := by decide +kernel
theorem dX10_dayOf_169 : decode cX10_dayOf 169 = .ok (.invokevirtual 247, 3) := by decide +kernel
theorem dX10_dayOf_172 : decode cX10_dayOf 172 = .ok (.invokestatic 262, 3) := by decide +kernel
theorem dX10_dayOf_175 : decode cX10_dayOf 175 = .ok (.ireturn, 1) := by decide +kernel
noncomputable def F10_dayOf_b133 (v1 : Int32) (v2 : Int32) (v3 : Int32) (a4 : Int32) (M : Mem) : Option (Int32 × Mem) :=
  (if v3 = (0 : Int32) then (lt (mset M 0 11 a4) (fun M19 => ((F10_goneNow M19).bind (fun q20 => ((F10_ones q20).bind (fun q21 => (some (q21, M19)))))))) else (lt (mset M 0 11 a4) (fun M15 => (if (M15 0 7) = (0 : Int32) then some ((0 : Int32), M15) else ((F10_lastWell M15).bind (fun q16 => ((F10_hearsOf q16 M15).bind (fun q17 => ((F10_ones q17).bind (fun q18 => (some (q18, M15))))))))))))
noncomputable def F10_dayOf_p106 (kh : Int32 → Int32 → Mem → Option (Int32 × Mem)) (kx133 : Int32 → Mem → Option (Int32 × Mem)) (v1 : Int32) (v2 : Int32) (v3 : Int32) (a4 : Int32) (a5 : Int32) (M : Mem) : Option (Int32 × Mem) :=
  (if (24 : Int32) ≤ a5 then kx133 a4 M else (ck a5 24 (ck a5 24 (kh a4 (a5 + (1 : Int32)) (mset M 9 a5.toNatClampNeg (M 22 a5.toNatClampNeg))))))
noncomputable def F10_dayOf_h106 (kx133 : Int32 → Mem → Option (Int32 × Mem)) (v1 : Int32) (v2 : Int32) (v3 : Int32) : Nat → Int32 → Int32 → Mem → Option (Int32 × Mem)
  | 0, _, _, _ => none
  | n + 1, a4, a5, M => F10_dayOf_p106 (F10_dayOf_h106 kx133 v1 v2 v3 n) kx133 v1 v2 v3 a4 a5 M
noncomputable def F10_dayOf_b99 (v1 : Int32) (v2 : Int32) (v3 : Int32) (a4 : Int32) (M : Mem) : Option (Int32 × Mem) :=
  ((F10_lives M).bind (fun q24 => ((F10_dayOf_h106 (F10_dayOf_b133 v1 v2 v3) v1 v2 v3 FU) a4 (0 : Int32) q24)))
noncomputable def F10_dayOf_p49 (kh : Int32 → Int32 → Mem → Option (Int32 × Mem)) (kx99 : Int32 → Mem → Option (Int32 × Mem)) (v1 : Int32) (v2 : Int32) (v3 : Int32) (a4 : Int32) (a5 : Int32) (M : Mem) : Option (Int32 × Mem) :=
  (if v2 ≤ a5 then kx99 a4 M else (if (M 0 7) ≤ (0 : Int32) then kx99 a4 M else ((F10_lot (3 : Int32) M).bind (fun q25 => ((F10_lot (40 : Int32) q25.2).bind (fun q26 => ((F10_lot (q26.2 0 7) q26.2).bind (fun q27 => ((F10_puts q25.1 q26.1 q27.1 q27.2).bind (fun q28 => (kh a4 (a5 + (1 : Int32)) q28)))))))))))
noncomputable def F10_dayOf_h49 (kx99 : Int32 → Mem → Option (Int32 × Mem)) (v1 : Int32) (v2 : Int32) (v3 : Int32) : Nat → Int32 → Int32 → Mem → Option (Int32 × Mem)
  | 0, _, _, _ => none
  | n + 1, a4, a5, M => F10_dayOf_p49 (F10_dayOf_h49 kx99 v1 v2 v3 n) kx99 v1 v2 v3 a4 a5 M
noncomputable def F10_dayOf_b36 (v1 : Int32) (v2 : Int32) (v3 : Int32) (a4 : Int32) (M : Mem) : Option (Int32 × Mem) :=
  (F10_dayOf_h49 (F10_dayOf_b99 v1 v2 v3) v1 v2 v3 FU) a4 (0 : Int32) (mset (mset M 0 29 v1) 0 11 (0 : Int32))
noncomputable def F10_dayOf_p9 (kh : Int32 → Int32 → Mem → Option (Int32 × Mem)) (kx36 : Int32 → Mem → Option (Int32 × Mem)) (v1 : Int32) (v2 : Int32) (v3 : Int32) (a4 : Int32) (a5 : Int32) (M : Mem) : Option (Int32 × Mem) :=
  (if (24 : Int32) ≤ a5 then kx36 a4 M else (ck a5 24 (ck a5 24 (kh a4 (a5 + (1 : Int32)) (mset M 22 a5.toNatClampNeg (M 9 a5.toNatClampNeg))))))
noncomputable def F10_dayOf_h9 (kx36 : Int32 → Mem → Option (Int32 × Mem)) (v1 : Int32) (v2 : Int32) (v3 : Int32) : Nat → Int32 → Int32 → Mem → Option (Int32 × Mem)
  | 0, _, _, _ => none
  | n + 1, a4, a5, M => F10_dayOf_p9 (F10_dayOf_h9 kx36 v1 v2 v3 n) kx36 v1 v2 v3 a4 a5 M
noncomputable def F10_dayOf (v1 : Int32) (v2 : Int32) (v3 : Int32) (mm : Mem) : Option (Int32 × Mem) :=
  (F10_dayOf_h9 (F10_dayOf_b36 v1 v2 v3) v1 v2 v3 FU) (mm 0 11) (0 : Int32) mm
set_option maxHeartbeats 4000000 in
set_option maxRecDepth 100000 in
theorem kX10_dayOf (l : Launch) (g : GG) (v1 : Int32) (v2 : Int32) (v3 : Int32) (mc mm : Mem) (q : Int32 × Mem) (hF : F10_dayOf v1 v2 v3 mm = some q) : KI l yX10_dayOf cX10_dayOf 8 .int 6 139 g [.ref (g.1 108), .int v1, .int v2, .int v3] mc mm q.1 (mc, q.2) := by
  intro sz
  refine x_start (Qc := fun z => QI g z q.1 (mc, q.2)) (by decide +kernel) (Nat.le_of_ble_eq_true rfl) ?_ sz
  intro p e s m args below meth c ls Z hr hlk hP hl
  have hx := Z.1.1
  have hb := Z.1.2.1
  have hown := Z.1.2.2.2.1
  have hts := Z.1.2.2.2.2
  have hS : va_S (AA g s.heap.size) s.heap s.heap [] := va_S.rf
  have hl : lv_has ls 8 [(0, .ref (g.1 108)), (1, .int v1), (2, .int v2), (3, .int v3)] := hl
  unfold F10_dayOf at hF
  have hb133 : ∀ (a4 : Int32) (M : Mem), F10_dayOf_b133 v1 v2 v3 a4 M = some q → ∀ (H : Heap) (locs : List Loc) (ls : Array Slot), lv_has ls 8 [(0, .ref (g.1 108)), (3, .int v3), (4, .int a4)] → va_P g.2.2.1 vwCl (wL g mc M) H → va_S (AA g s.heap.size) s.heap H locs → W p l e { frames := 6, cells := 0, slots := 0, locals := 139 } s m args below meth c H locs 0 0 (MQ below (QI g s.heap.size q.1 (mc, q.2)) args s 0 0 (AA g s.heap.size)) (F0 m 133 ls []) := by
    intro a4 M hF H locs ls hl hP hS
    unfold F10_dayOf_b133 at hF
    refine lv_aload_n hx hb dX10_dayOf_133 rfl (lv_at hl 0 rfl) ?_
    refine lv_iload hx hb dX10_dayOf_134 (lv_at hl 2 rfl) ?_
    refine pf10_11 Z hP hS wd_18_4 dX10_dayOf_136 (fun H locs hP hS => ?_)
    refine lv_iload_n hx hb dX10_dayOf_139 rfl (lv_at hl 1 rfl) ?_
    refine lv_if_ne (tgt := 153) hx hb dX10_dayOf_140 rfl (fun hc => ?_) (fun hc => ?_)
    · have hF := (if_neg hc).symm.trans hF
      refine lv_aload_n hx hb dX10_dayOf_153 rfl (lv_at hl 0 rfl) ?_
      obtain ⟨M15, eM15, hF⟩ := lt_ok hF
      have hP : va_P g.2.2.1 vwCl (wL g mc M15) H := by rw [eM15]; exact hP
      refine gf10_7 Z hP wd_14_19 dX10_dayOf_154 ?_
      refine lv_if_ne (tgt := 164) hx hb dX10_dayOf_157 rfl (fun hc => ?_) (fun hc => ?_)
      · have hF := (if_neg hc).symm.trans hF
        refine lv_aload_n hx hb dX10_dayOf_164 rfl (lv_at hl 0 rfl) ?_
        refine lv_aload_n hx hb dX10_dayOf_165 rfl (lv_at hl 0 rfl) ?_
        obtain ⟨q16, hq16, hF⟩ := bd_ok hF
        refine xX10_lastWell Z hP hS hq16 wd_23_9 hl.1 (Nat.le_of_ble_eq_true rfl) ⟨Nat.le_of_ble_eq_true rfl, Nat.le_of_ble_eq_true rfl⟩ dX10_dayOf_166 (fun H locs hP hS => ?_)
        obtain ⟨q17, hq17, hF⟩ := bd_ok hF
        refine xX10_hearsOf Z hP hS hq17 wd_25_6 hl.1 (Nat.le_of_ble_eq_true rfl) ⟨Nat.le_of_ble_eq_true rfl, Nat.le_of_ble_eq_true rfl⟩ dX10_dayOf_169 (fun H locs hP hS => ?_)
        obtain ⟨q18, hq18, hF⟩ := bd_ok hF
        refine xX10_ones Z hP hS hq18 wd_29_10 hl.1 (Nat.le_of_ble_eq_true rfl) ⟨Nat.le_of_ble_eq_true rfl, Nat.le_of_ble_eq_true rfl⟩ dX10_dayOf_172 (fun H locs hP hS => ?_)
        exact ret_IWM Z hr hlk hP hS hF dX10_dayOf_175
      · have hF := (if_pos hc).symm.trans hF
        refine lv_iconst (v := (0 : Int32)) hx hb dX10_dayOf_160 ic_0 ?_
        refine lv_goto (tgt := 175) hx hb dX10_dayOf_161 rfl ?_
        exact ret_IWM Z hr hlk hP hS hF dX10_dayOf_175
    · have hF := (if_pos hc).symm.trans hF
      refine lv_aload_n hx hb dX10_dayOf_143 rfl (lv_at hl 0 rfl) ?_
      obtain ⟨M19, eM19, hF⟩ := lt_ok hF
      have hP : va_P g.2.2.1 vwCl (wL g mc M19) H := by rw [eM19]; exact hP
      obtain ⟨q20, hq20, hF⟩ := bd_ok hF
      refine xX10_goneNow Z hP hS hq20 wd_26_18 hl.1 (Nat.le_of_ble_eq_true rfl) ⟨Nat.le_of_ble_eq_true rfl, Nat.le_of_ble_eq_true rfl⟩ dX10_dayOf_144 (fun H locs hP hS => ?_)
      obtain ⟨q21, hq21, hF⟩ := bd_ok hF
      refine xX10_ones Z hP hS hq21 wd_29_10 hl.1 (Nat.le_of_ble_eq_true rfl) ⟨Nat.le_of_ble_eq_true rfl, Nat.le_of_ble_eq_true rfl⟩ dX10_dayOf_147 (fun H locs hP hS => ?_)
      refine lv_goto (tgt := 175) hx hb dX10_dayOf_150 rfl ?_
      exact ret_IWM Z hr hlk hP hS hF dX10_dayOf_175
  have hL106 : ∀ (kx133 : Int32 → Mem → Option (Int32 × Mem)), (∀ (a4 : Int32) (M : Mem), kx133 a4 M = some q → ∀ (H : Heap) (locs : List Loc) (ls : Array Slot), lv_has ls 8 [(0, .ref (g.1 108)), (3, .int v3), (4, .int a4)] → va_P g.2.2.1 vwCl (wL g mc M) H → va_S (AA g s.heap.size) s.heap H locs → W p l e { frames := 6, cells := 0, slots := 0, locals := 139 } s m args below meth c H locs 0 0 (MQ below (QI g s.heap.size q.1 (mc, q.2)) args s 0 0 (AA g s.heap.size)) (F0 m 133 ls [])) → ∀ n : Nat, ∀ (a4 : Int32) (a5 : Int32) (M : Mem), F10_dayOf_h106 kx133 v1 v2 v3 n a4 a5 M = some q → ∀ (H : Heap) (locs : List Loc) (ls : Array Slot), lv_has ls 8 [(0, .ref (g.1 108)), (3, .int v3), (4, .int a4), (5, .int a5)] → va_P g.2.2.1 vwCl (wL g mc M) H → va_S (AA g s.heap.size) s.heap H locs → W p l e { frames := 6, cells := 0, slots := 0, locals := 139 } s m args below meth c H locs 0 0 (MQ below (QI g s.heap.size q.1 (mc, q.2)) args s 0 0 (AA g s.heap.size)) (F0 m 106 ls []) := by
    intro kx133 hx133 n
    induction n with
    | zero => intro a4 a5 M hF H locs ls hl hP hS; exact absurd hF (fun z => nomatch (show (none : Option _) = some q from z))
    | succ n ih =>
      generalize hkh : F10_dayOf_h106 kx133 v1 v2 v3 n = kh at ih
      intro a4 a5 M hF H locs ls hl hP hS
      have hF : F10_dayOf_p106 (F10_dayOf_h106 kx133 v1 v2 v3 n) kx133 v1 v2 v3 a4 a5 M = some q := hF
      rw [hkh] at hF
      unfold F10_dayOf_p106 at hF
      refine lv_iload hx hb dX10_dayOf_106 (lv_at hl 3 rfl) ?_
      refine lv_bipush (v := (24 : Int32)) hx hb dX10_dayOf_108 bp_24 ?_
      refine lv_icmp_ge (tgt := 133) hx hb dX10_dayOf_110 rfl (fun hc => ?_) (fun hc => ?_)
      · have hF := (if_pos hc).symm.trans hF
        exact hx133 _ _ hF _ _ _ (lv_sub hl [0, 1, 2] rfl) hP hS
      · have hF := (if_neg hc).symm.trans hF
        refine lv_aload_n hx hb dX10_dayOf_113 rfl (lv_at hl 0 rfl) ?_
        refine gf10_12 Z hP wd_6_12 dX10_dayOf_114 ?_
        refine lv_iload hx hb dX10_dayOf_117 (lv_at hl 3 rfl) ?_
        refine lv_aload_n hx hb dX10_dayOf_119 rfl (lv_at hl 0 rfl) ?_
        refine gf10_30 Z hP wd_7_1 dX10_dayOf_120 ?_
        refine lv_iload hx hb dX10_dayOf_123 (lv_at hl 3 rfl) ?_
        obtain ⟨hi22, hF⟩ := ck_ok hF
        refine rM_ld Z hP 24 22 (by decide +kernel) hi22 dX10_dayOf_125 ?_
        obtain ⟨hi23, hF⟩ := ck_ok hF
        refine rM_st Z hP hS 24 9 (by decide +kernel) hi23 dX10_dayOf_126 (fun H locs hP hS => ?_)
        refine lv_iinc (lv' := [(5, .int (a5 + (1 : Int32))), (0, .ref (g.1 108)), (3, .int v3), (4, .int a4)]) (v := (a5 + (1 : Int32))) hx hb dX10_dayOf_127 hl (k := 3) rfl (io_1 _) (Nat.le_of_ble_eq_true rfl) rfl (fun ls hl => ?_)
        refine lv_goto (tgt := 106) hx hb dX10_dayOf_130 rfl ?_
        exact ih _ _ _ hF _ _ _ (lv_sub hl [1, 2, 3, 0] rfl) hP hS
  have hb99 : ∀ (a4 : Int32) (M : Mem), F10_dayOf_b99 v1 v2 v3 a4 M = some q → ∀ (H : Heap) (locs : List Loc) (ls : Array Slot), lv_has ls 8 [(0, .ref (g.1 108)), (3, .int v3), (4, .int a4)] → va_P g.2.2.1 vwCl (wL g mc M) H → va_S (AA g s.heap.size) s.heap H locs → W p l e { frames := 6, cells := 0, slots := 0, locals := 139 } s m args below meth c H locs 0 0 (MQ below (QI g s.heap.size q.1 (mc, q.2)) args s 0 0 (AA g s.heap.size)) (F0 m 99 ls []) := by
    intro a4 M hF H locs ls hl hP hS
    unfold F10_dayOf_b99 at hF
    refine lv_aload_n hx hb dX10_dayOf_99 rfl (lv_at hl 0 rfl) ?_
    obtain ⟨q24, hq24, hF⟩ := bd_ok hF
    refine xX10_lives Z hP hS hq24 wd_22_9 hl.1 (Nat.le_of_ble_eq_true rfl) ⟨Nat.le_of_ble_eq_true rfl, Nat.le_of_ble_eq_true rfl⟩ dX10_dayOf_100 (fun H locs hP hS => ?_)
    refine lv_iconst (v := (0 : Int32)) hx hb dX10_dayOf_103 ic_0 ?_
    refine lv_istore (lv' := [(5, .int (0 : Int32)), (0, .ref (g.1 108)), (3, .int v3), (4, .int a4)]) hx hb dX10_dayOf_104 hl (Nat.le_of_ble_eq_true rfl) rfl (fun ls hl => ?_)
    exact (hL106 _ hb133 FU) _ _ _ hF _ _ _ (lv_sub hl [1, 2, 3, 0] rfl) hP hS
  have hL49 : ∀ (kx99 : Int32 → Mem → Option (Int32 × Mem)), (∀ (a4 : Int32) (M : Mem), kx99 a4 M = some q → ∀ (H : Heap) (locs : List Loc) (ls : Array Slot), lv_has ls 8 [(0, .ref (g.1 108)), (3, .int v3), (4, .int a4)] → va_P g.2.2.1 vwCl (wL g mc M) H → va_S (AA g s.heap.size) s.heap H locs → W p l e { frames := 6, cells := 0, slots := 0, locals := 139 } s m args below meth c H locs 0 0 (MQ below (QI g s.heap.size q.1 (mc, q.2)) args s 0 0 (AA g s.heap.size)) (F0 m 99 ls [])) → ∀ n : Nat, ∀ (a4 : Int32) (a5 : Int32) (M : Mem), F10_dayOf_h49 kx99 v1 v2 v3 n a4 a5 M = some q → ∀ (H : Heap) (locs : List Loc) (ls : Array Slot), lv_has ls 8 [(0, .ref (g.1 108)), (2, .int v2), (3, .int v3), (4, .int a4), (5, .int a5)] → va_P g.2.2.1 vwCl (wL g mc M) H → va_S (AA g s.heap.size) s.heap H locs → W p l e { frames := 6, cells := 0, slots := 0, locals := 139 } s m args below meth c H locs 0 0 (MQ below (QI g s.heap.size q.1 (mc, q.2)) args s 0 0 (AA g s.heap.size)) (F0 m 49 ls []) := by
    intro kx99 hx99 n
    induction n with
    | zero => intro a4 a5 M hF H locs ls hl hP hS; exact absurd hF (fun z => nomatch (show (none : Option _) = some q from z))
    | succ n ih =>
      generalize hkh : F10_dayOf_h49 kx99 v1 v2 v3 n = kh at ih
      intro a4 a5 M hF H locs ls hl hP hS
      have hF : F10_dayOf_p49 (F10_dayOf_h49 kx99 v1 v2 v3 n) kx99 v1 v2 v3 a4 a5 M = some q := hF
      rw [hkh] at hF
      unfold F10_dayOf_p49 at hF
      refine lv_iload hx hb dX10_dayOf_49 (lv_at hl 4 rfl) ?_
      refine lv_iload_n hx hb dX10_dayOf_51 rfl (lv_at hl 1 rfl) ?_
      refine lv_icmp_ge (tgt := 99) hx hb dX10_dayOf_52 rfl (fun hc => ?_) (fun hc => ?_)
      · have hF := (if_pos hc).symm.trans hF
        exact hx99 _ _ hF _ _ _ (lv_sub hl [0, 2, 3] rfl) hP hS
      · have hF := (if_neg hc).symm.trans hF
        refine lv_aload_n hx hb dX10_dayOf_55 rfl (lv_at hl 0 rfl) ?_
        refine gf10_7 Z hP wd_14_19 dX10_dayOf_56 ?_
        refine lv_if_le (tgt := 99) hx hb dX10_dayOf_59 rfl (fun hc => ?_) (fun hc => ?_)
        · have hF := (if_pos hc).symm.trans hF
          exact hx99 _ _ hF _ _ _ (lv_sub hl [0, 2, 3] rfl) hP hS
        · have hF := (if_neg hc).symm.trans hF
          refine lv_aload_n hx hb dX10_dayOf_62 rfl (lv_at hl 0 rfl) ?_
          refine lv_iconst (v := (3 : Int32)) hx hb dX10_dayOf_63 ic_3 ?_
          obtain ⟨q25, hq25, hF⟩ := bd_ok hF
          refine xX10_lot Z hP hS hq25 wd_39_2 hl.1 (Nat.le_of_ble_eq_true rfl) ⟨Nat.le_of_ble_eq_true rfl, Nat.le_of_ble_eq_true rfl⟩ dX10_dayOf_64 (fun H locs hP hS => ?_)
          refine lv_istore (lv' := [(6, .int q25.1), (0, .ref (g.1 108)), (2, .int v2), (3, .int v3), (4, .int a4), (5, .int a5)]) hx hb dX10_dayOf_67 hl (Nat.le_of_ble_eq_true rfl) rfl (fun ls hl => ?_)
          refine lv_aload_n hx hb dX10_dayOf_69 rfl (lv_at hl 1 rfl) ?_
          refine lv_bipush (v := (40 : Int32)) hx hb dX10_dayOf_70 bp_40 ?_
          obtain ⟨q26, hq26, hF⟩ := bd_ok hF
          refine xX10_lot Z hP hS hq26 wd_39_2 hl.1 (Nat.le_of_ble_eq_true rfl) ⟨Nat.le_of_ble_eq_true rfl, Nat.le_of_ble_eq_true rfl⟩ dX10_dayOf_72 (fun H locs hP hS => ?_)
          refine lv_istore (lv' := [(7, .int q26.1), (6, .int q25.1), (0, .ref (g.1 108)), (2, .int v2), (3, .int v3), (4, .int a4), (5, .int a5)]) hx hb dX10_dayOf_75 hl (Nat.le_of_ble_eq_true rfl) rfl (fun ls hl => ?_)
          refine lv_aload_n hx hb dX10_dayOf_77 rfl (lv_at hl 2 rfl) ?_
          refine lv_iload hx hb dX10_dayOf_78 (lv_at hl 1 rfl) ?_
          refine lv_iload hx hb dX10_dayOf_80 (lv_at hl 0 rfl) ?_
          refine lv_aload_n hx hb dX10_dayOf_82 rfl (lv_at hl 2 rfl) ?_
          refine lv_aload_n hx hb dX10_dayOf_83 rfl (lv_at hl 2 rfl) ?_
          refine gf10_7 Z hP wd_14_19 dX10_dayOf_84 ?_
          obtain ⟨q27, hq27, hF⟩ := bd_ok hF
          refine xX10_lot Z hP hS hq27 wd_39_2 hl.1 (Nat.le_of_ble_eq_true rfl) ⟨Nat.le_of_ble_eq_true rfl, Nat.le_of_ble_eq_true rfl⟩ dX10_dayOf_87 (fun H locs hP hS => ?_)
          obtain ⟨q28, hq28, hF⟩ := bd_ok hF
          refine xX10_puts Z hP hS hq28 wd_18_12 hl.1 (Nat.le_of_ble_eq_true rfl) ⟨Nat.le_of_ble_eq_true rfl, Nat.le_of_ble_eq_true rfl⟩ dX10_dayOf_90 (fun H locs hP hS => ?_)
          refine lv_iinc (lv' := [(5, .int (a5 + (1 : Int32))), (7, .int q26.1), (6, .int q25.1), (0, .ref (g.1 108)), (2, .int v2), (3, .int v3), (4, .int a4)]) (v := (a5 + (1 : Int32))) hx hb dX10_dayOf_93 hl (k := 6) rfl (io_1 _) (Nat.le_of_ble_eq_true rfl) rfl (fun ls hl => ?_)
          refine lv_goto (tgt := 49) hx hb dX10_dayOf_96 rfl ?_
          exact ih _ _ _ hF _ _ _ (lv_sub hl [3, 4, 5, 6, 0] rfl) hP hS
  have hb36 : ∀ (a4 : Int32) (M : Mem), F10_dayOf_b36 v1 v2 v3 a4 M = some q → ∀ (H : Heap) (locs : List Loc) (ls : Array Slot), lv_has ls 8 [(0, .ref (g.1 108)), (1, .int v1), (2, .int v2), (3, .int v3), (4, .int a4)] → va_P g.2.2.1 vwCl (wL g mc M) H → va_S (AA g s.heap.size) s.heap H locs → W p l e { frames := 6, cells := 0, slots := 0, locals := 139 } s m args below meth c H locs 0 0 (MQ below (QI g s.heap.size q.1 (mc, q.2)) args s 0 0 (AA g s.heap.size)) (F0 m 36 ls []) := by
    intro a4 M hF H locs ls hl hP hS
    unfold F10_dayOf_b36 at hF
    refine lv_aload_n hx hb dX10_dayOf_36 rfl (lv_at hl 0 rfl) ?_
    refine lv_iload_n hx hb dX10_dayOf_37 rfl (lv_at hl 1 rfl) ?_
    refine pf10_29 Z hP hS wd_39_1 dX10_dayOf_38 (fun H locs hP hS => ?_)
    refine lv_aload_n hx hb dX10_dayOf_41 rfl (lv_at hl 0 rfl) ?_
    refine lv_iconst (v := (0 : Int32)) hx hb dX10_dayOf_42 ic_0 ?_
    refine pf10_11 Z hP hS wd_18_4 dX10_dayOf_43 (fun H locs hP hS => ?_)
    refine lv_iconst (v := (0 : Int32)) hx hb dX10_dayOf_46 ic_0 ?_
    refine lv_istore (lv' := [(5, .int (0 : Int32)), (0, .ref (g.1 108)), (1, .int v1), (2, .int v2), (3, .int v3), (4, .int a4)]) hx hb dX10_dayOf_47 hl (Nat.le_of_ble_eq_true rfl) rfl (fun ls hl => ?_)
    exact (hL49 _ hb99 FU) _ _ _ hF _ _ _ (lv_sub hl [1, 3, 4, 5, 0] rfl) hP hS
  have hL9 : ∀ (kx36 : Int32 → Mem → Option (Int32 × Mem)), (∀ (a4 : Int32) (M : Mem), kx36 a4 M = some q → ∀ (H : Heap) (locs : List Loc) (ls : Array Slot), lv_has ls 8 [(0, .ref (g.1 108)), (1, .int v1), (2, .int v2), (3, .int v3), (4, .int a4)] → va_P g.2.2.1 vwCl (wL g mc M) H → va_S (AA g s.heap.size) s.heap H locs → W p l e { frames := 6, cells := 0, slots := 0, locals := 139 } s m args below meth c H locs 0 0 (MQ below (QI g s.heap.size q.1 (mc, q.2)) args s 0 0 (AA g s.heap.size)) (F0 m 36 ls [])) → ∀ n : Nat, ∀ (a4 : Int32) (a5 : Int32) (M : Mem), F10_dayOf_h9 kx36 v1 v2 v3 n a4 a5 M = some q → ∀ (H : Heap) (locs : List Loc) (ls : Array Slot), lv_has ls 8 [(0, .ref (g.1 108)), (1, .int v1), (2, .int v2), (3, .int v3), (4, .int a4), (5, .int a5)] → va_P g.2.2.1 vwCl (wL g mc M) H → va_S (AA g s.heap.size) s.heap H locs → W p l e { frames := 6, cells := 0, slots := 0, locals := 139 } s m args below meth c H locs 0 0 (MQ below (QI g s.heap.size q.1 (mc, q.2)) args s 0 0 (AA g s.heap.size)) (F0 m 9 ls []) := by
    intro kx36 hx36 n
    induction n with
    | zero => intro a4 a5 M hF H locs ls hl hP hS; exact absurd hF (fun z => nomatch (show (none : Option _) = some q from z))
    | succ n ih =>
      generalize hkh : F10_dayOf_h9 kx36 v1 v2 v3 n = kh at ih
      intro a4 a5 M hF H locs ls hl hP hS
      have hF : F10_dayOf_p9 (F10_dayOf_h9 kx36 v1 v2 v3 n) kx36 v1 v2 v3 a4 a5 M = some q := hF
      rw [hkh] at hF
      unfold F10_dayOf_p9 at hF
      refine lv_iload hx hb dX10_dayOf_9 (lv_at hl 5 rfl) ?_
      refine lv_bipush (v := (24 : Int32)) hx hb dX10_dayOf_11 bp_24 ?_
      refine lv_icmp_ge (tgt := 36) hx hb dX10_dayOf_13 rfl (fun hc => ?_) (fun hc => ?_)
      · have hF := (if_pos hc).symm.trans hF
        exact hx36 _ _ hF _ _ _ (lv_sub hl [0, 1, 2, 3, 4] rfl) hP hS
      · have hF := (if_neg hc).symm.trans hF
        refine lv_aload_n hx hb dX10_dayOf_16 rfl (lv_at hl 0 rfl) ?_
        refine gf10_30 Z hP wd_7_1 dX10_dayOf_17 ?_
        refine lv_iload hx hb dX10_dayOf_20 (lv_at hl 5 rfl) ?_
        refine lv_aload_n hx hb dX10_dayOf_22 rfl (lv_at hl 0 rfl) ?_
        refine gf10_12 Z hP wd_6_12 dX10_dayOf_23 ?_
        refine lv_iload hx hb dX10_dayOf_26 (lv_at hl 5 rfl) ?_
        obtain ⟨hi29, hF⟩ := ck_ok hF
        refine rM_ld Z hP 24 9 (by decide +kernel) hi29 dX10_dayOf_28 ?_
        obtain ⟨hi30, hF⟩ := ck_ok hF
        refine rM_st Z hP hS 24 22 (by decide +kernel) hi30 dX10_dayOf_29 (fun H locs hP hS => ?_)
        refine lv_iinc (lv' := [(5, .int (a5 + (1 : Int32))), (0, .ref (g.1 108)), (1, .int v1), (2, .int v2), (3, .int v3), (4, .int a4)]) (v := (a5 + (1 : Int32))) hx hb dX10_dayOf_30 hl (k := 5) rfl (io_1 _) (Nat.le_of_ble_eq_true rfl) rfl (fun ls hl => ?_)
        refine lv_goto (tgt := 9) hx hb dX10_dayOf_33 rfl ?_
        exact ih _ _ _ hF _ _ _ (lv_sub hl [1, 2, 3, 4, 5, 0] rfl) hP hS
  refine lv_aload_n hx hb dX10_dayOf_0 rfl (lv_at hl 0 rfl) ?_
  refine gf10_11 Z hP wd_18_4 dX10_dayOf_1 ?_
  refine lv_istore (lv' := [(4, .int (mm 0 11)), (0, .ref (g.1 108)), (1, .int v1), (2, .int v2), (3, .int v3)]) hx hb dX10_dayOf_4 hl (Nat.le_of_ble_eq_true rfl) rfl (fun ls hl => ?_)
  refine lv_iconst (v := (0 : Int32)) hx hb dX10_dayOf_6 ic_0 ?_
  refine lv_istore (lv' := [(5, .int (0 : Int32)), (4, .int (mm 0 11)), (0, .ref (g.1 108)), (1, .int v1), (2, .int v2), (3, .int v3)]) hx hb dX10_dayOf_7 hl (Nat.le_of_ble_eq_true rfl) rfl (fun ls hl => ?_)
  exact (hL9 _ hb36 FU) _ _ _ hF _ _ _ (lv_sub hl [2, 3, 4, 5, 1, 0] rfl) hP hS
theorem xX10_dayOf {p : Program} {l : Launch} {e : Env} {R : Room} {s : State} {m : MethodId} {args : Array Value} {below : List Frame} {meth : Method} {c : Code} {H : Heap} {locs : List Loc} {Q : State → Prop} {cc : ByteArray} {nL : Nat} {own : String} {g : GG} {pc index : Nat} {ls : Array Slot} {rest : List Value} {mc mm : Mem} (Z : ZZ p s m args c cc nL own g) (hP : va_P g.2.2.1 vwCl (wL g mc mm) H) (hS : va_S (AA g s.heap.size) s.heap H locs) {v1 : Int32} {v2 : Int32} {v3 : Int32} {q : Int32 × Mem} (hq : F10_dayOf v1 v2 v3 mm = some q) (hlk : Cond.methodLink own index yX10_dayOf ∈ wsL_law) (hsz : ls.size = nL) (hro : (rest.map fun v => v.category).sum ≤ 8) (hR : 6 + 1 ≤ R.frames ∧ 8 + (8 + 11) + 139 ≤ R.locals) (hdg : decode cc pc = .ok (.invokevirtual index, 3)) (kk : ∀ (H : Heap) (locs : List Loc), va_P g.2.2.1 vwCl (wL g mc q.2) H → va_S (AA g s.heap.size) s.heap H locs → W p l e R s m args below meth c H locs 0 0 Q (F0 m (pc + 3) ls (.int q.1 :: rest))) : W p l e R s m args below meth c H locs 0 0 Q (F0 m pc ls (.int v3 :: .int v2 :: .int v1 :: .ref (g.1 108) :: rest)) :=
  x_VI Z hP hS (kX10_dayOf l g v1 v2 v3 mc mm q hq) (mO) (ci := 10) (by decide) rfl rfl mf_X10_dayOf mv_X10_dayOf hlk rfl rfl hsz hro hR hdg kk
theorem dX10_day_0 : decode cX10_day 0 = .ok (.aload_n 0, 1) := by decide +kernel
theorem dX10_day_1 : decode cX10_day 1 = .ok (.invokevirtual 236, 3) := by decide +kernel
theorem dX10_day_4 : decode cX10_day 4 = .ok (.iload_n 2, 1) := by decide +kernel
theorem dX10_day_5 : decode cX10_day 5 = .ok (.i2l, 1) := by decide +kernel
theorem dX10_day_6 : decode cX10_day 6 = .ok (.lconst 0, 1) := by decide +kernel
theorem dX10_day_7 : decode cX10_day 7 = .ok (.ldc2_w 337, 3) := by decide +kernel
theorem dX10_day_10 : decode cX10_day 10 = .ok (.invokestatic 83, 3) := by decide +kernel
theorem dX10_day_13 : decode cX10_day 13 = .ok (.ifCond .eq 20, 3) := by decide +kernel
theorem dX10_day_16 : decode cX10_day 16 = .ok (.iload_n 3, 1) := by decide +kernel
theorem dX10_day_17 : decode cX10_day 17 = .ok (.invokestatic 111, 3) := by decide +kernel
theorem dX10_day_20 : decode cX10_day 20 = .ok (.ifCond .eq 13, 3) := by decide +kernel
theorem dX10_day_23 : decode cX10_day 23 = .ok (.aload_n 0, 1) := by decide +kernel
theorem dX10_day_24 : decode cX10_day 24 = .ok (.iload_n 1, 1) := by decide +kernel
theorem dX10_day_25 : decode cX10_day 25 = .ok (.iload_n 2, 1) := by decide +kernel
theorem dX10_day_26 : decode cX10_day 26 = .ok (.iload_n 3, 1) := by decide +kernel
theorem dX10_day_27 : decode cX10_day 27 = .ok (.invokevirtual 339, 3) := by decide +kernel
theorem dX10_day_30 : decode cX10_day 30 = .ok (.goto 5, 3) := by decide +kernel
theorem dX10_day_33 : decode cX10_day 33 = .ok (.bipush (-2), 2) := by decide +kernel
theorem dX10_day_35 : decode cX10_day 35 = .ok (.ireturn, 1) := by decide +kernel
noncomputable def F10_day_b33 (v1 : Int32) (v2 : Int32) (v3 : Int32) (M : Mem) : Option (Int32 × Mem) :=
  some ((-2 : Int32), M)
noncomputable def F10_day (v1 : Int32) (v2 : Int32) (v3 : Int32) (mm : Mem) : Option (Int32 × Mem) :=
  ((F10_find mm).bind (fun q5 => ((F10_in v2.toInt64 (0 : Int64) (8 : Int64)).bind (fun q6 => (if q6 = (0 : Int32) then (F10_day_b33 v1 v2 v3) q5 else ((F10_isTwo v3).bind (fun q7 => (if q7 = (0 : Int32) then (F10_day_b33 v1 v2 v3) q5 else ((F10_dayOf v1 v2 v3 q5).bind (fun q8 => (some (q8.1, q8.2))))))))))))
set_option maxHeartbeats 4000000 in
set_option maxRecDepth 100000 in
theorem kX10_day (l : Launch) (g : GG) (v1 : Int32) (v2 : Int32) (v3 : Int32) (mc mm : Mem) (q : Int32 × Mem) (hF : F10_day v1 v2 v3 mm = some q) : KI l yX10_day cX10_day 4 .int 7 166 g [.ref (g.1 108), .int v1, .int v2, .int v3] mc mm q.1 (mc, q.2) := by
  intro sz
  refine x_start (Qc := fun z => QI g z q.1 (mc, q.2)) (by decide +kernel) (Nat.le_of_ble_eq_true rfl) ?_ sz
  intro p e s m args below meth c ls Z hr hlk hP hl
  have hx := Z.1.1
  have hb := Z.1.2.1
  have hown := Z.1.2.2.2.1
  have hts := Z.1.2.2.2.2
  have hS : va_S (AA g s.heap.size) s.heap s.heap [] := va_S.rf
  have hl : lv_has ls 4 [(0, .ref (g.1 108)), (1, .int v1), (2, .int v2), (3, .int v3)] := hl
  unfold F10_day at hF
  have hb33 : ∀  (M : Mem), F10_day_b33 v1 v2 v3 M = some q → ∀ (H : Heap) (locs : List Loc) (ls : Array Slot), lv_has ls 4 [] → va_P g.2.2.1 vwCl (wL g mc M) H → va_S (AA g s.heap.size) s.heap H locs → W p l e { frames := 7, cells := 0, slots := 0, locals := 166 } s m args below meth c H locs 0 0 (MQ below (QI g s.heap.size q.1 (mc, q.2)) args s 0 0 (AA g s.heap.size)) (F0 m 33 ls []) := by
    intro M hF H locs ls hl hP hS
    unfold F10_day_b33 at hF
    refine lv_bipush (v := (-2 : Int32)) hx hb dX10_day_33 bp_m2 ?_
    exact ret_IWM Z hr hlk hP hS hF dX10_day_35
  refine lv_aload_n hx hb dX10_day_0 rfl (lv_at hl 0 rfl) ?_
  obtain ⟨q5, hq5, hF⟩ := bd_ok hF
  refine xX10_find Z hP hS hq5 wd_22_5 hl.1 (Nat.le_of_ble_eq_true rfl) ⟨Nat.le_of_ble_eq_true rfl, Nat.le_of_ble_eq_true rfl⟩ dX10_day_1 (fun H locs hP hS => ?_)
  refine lv_iload_n hx hb dX10_day_4 rfl (lv_at hl 2 rfl) ?_
  refine lv_i2l (v := v2.toInt64) hx hb dX10_day_5 rfl ?_
  refine lv_lconst (v := (0 : Int64)) hx hb dX10_day_6 lc_0 ?_
  refine lv_ldc2 (v := (8 : Int64)) hx hb hown (hts _ wd_38_20) dX10_day_7 ?_
  obtain ⟨q6, hq6, hF⟩ := bd_ok hF
  refine xX10_in Z hP hS hq6 wd_13_8 hl.1 (Nat.le_of_ble_eq_true rfl) ⟨Nat.le_of_ble_eq_true rfl, Nat.le_of_ble_eq_true rfl⟩ dX10_day_10 (fun H locs hP hS => ?_)
  refine lv_if_eq (tgt := 33) hx hb dX10_day_13 rfl (fun hc => ?_) (fun hc => ?_)
  · have hF := (if_pos hc).symm.trans hF
    exact hb33 _ hF _ _ _ (lv_sub hl [] rfl) hP hS
  · have hF := (if_neg hc).symm.trans hF
    refine lv_iload_n hx hb dX10_day_16 rfl (lv_at hl 3 rfl) ?_
    obtain ⟨q7, hq7, hF⟩ := bd_ok hF
    refine xX10_isTwo Z hP hS hq7 wd_13_5 hl.1 (Nat.le_of_ble_eq_true rfl) ⟨Nat.le_of_ble_eq_true rfl, Nat.le_of_ble_eq_true rfl⟩ dX10_day_17 (fun H locs hP hS => ?_)
    refine lv_if_eq (tgt := 33) hx hb dX10_day_20 rfl (fun hc => ?_) (fun hc => ?_)
    · have hF := (if_pos hc).symm.trans hF
      exact hb33 _ hF _ _ _ (lv_sub hl [] rfl) hP hS
    · have hF := (if_neg hc).symm.trans hF
      refine lv_aload_n hx hb dX10_day_23 rfl (lv_at hl 0 rfl) ?_
      refine lv_iload_n hx hb dX10_day_24 rfl (lv_at hl 1 rfl) ?_
      refine lv_iload_n hx hb dX10_day_25 rfl (lv_at hl 2 rfl) ?_
      refine lv_iload_n hx hb dX10_day_26 rfl (lv_at hl 3 rfl) ?_
      obtain ⟨q8, hq8, hF⟩ := bd_ok hF
      refine xX10_dayOf Z hP hS hq8 wd_38_21 hl.1 (Nat.le_of_ble_eq_true rfl) ⟨Nat.le_of_ble_eq_true rfl, Nat.le_of_ble_eq_true rfl⟩ dX10_day_27 (fun H locs hP hS => ?_)
      refine lv_goto (tgt := 35) hx hb dX10_day_30 rfl ?_
      exact ret_IWM Z hr hlk hP hS hF dX10_day_35
theorem xX10_day {p : Program} {l : Launch} {e : Env} {R : Room} {s : State} {m : MethodId} {args : Array Value} {below : List Frame} {meth : Method} {c : Code} {H : Heap} {locs : List Loc} {Q : State → Prop} {cc : ByteArray} {nL : Nat} {own : String} {g : GG} {pc index : Nat} {ls : Array Slot} {rest : List Value} {mc mm : Mem} (Z : ZZ p s m args c cc nL own g) (hP : va_P g.2.2.1 vwCl (wL g mc mm) H) (hS : va_S (AA g s.heap.size) s.heap H locs) {v1 : Int32} {v2 : Int32} {v3 : Int32} {q : Int32 × Mem} (hq : F10_day v1 v2 v3 mm = some q) (hlk : Cond.methodLink own index yX10_day ∈ wsL_law) (hsz : ls.size = nL) (hro : (rest.map fun v => v.category).sum ≤ 8) (hR : 7 + 1 ≤ R.frames ∧ 8 + (4 + 11) + 166 ≤ R.locals) (hdg : decode cc pc = .ok (.invokevirtual index, 3)) (kk : ∀ (H : Heap) (locs : List Loc), va_P g.2.2.1 vwCl (wL g mc q.2) H → va_S (AA g s.heap.size) s.heap H locs → W p l e R s m args below meth c H locs 0 0 Q (F0 m (pc + 3) ls (.int q.1 :: rest))) : W p l e R s m args below meth c H locs 0 0 Q (F0 m pc ls (.int v3 :: .int v2 :: .int v1 :: .ref (g.1 108) :: rest)) :=
  x_VI Z hP hS (kX10_day l g v1 v2 v3 mc mm q hq) (mO) (ci := 10) (by decide) rfl rfl mf_X10_day mv_X10_day hlk rfl rfl hsz hro hR hdg kk
theorem dX10_write_0 : decode cX10_write 0 = .ok (.aload_n 0, 1) := by decide +kernel
theorem dX10_write_1 : decode cX10_write 1 = .ok (.invokevirtual 236, 3) := by decide +kernel
theorem dX10_write_4 : decode cX10_write 4 = .ok (.aload_n 0, 1) := by decide +kernel
theorem dX10_write_5 : decode cX10_write 5 = .ok (.iload_n 1, 1) := by decide +kernel
theorem dX10_write_6 : decode cX10_write 6 = .ok (.invokevirtual 166, 3) := by decide +kernel
theorem dX10_write_9 : decode cX10_write 9 = .ok (.ifCond .eq 10, 3) := by decide +kernel
theorem dX10_write_12 : decode cX10_write 12 = .ok (.iload_n 2, 1) := by decide +kernel
theorem dX10_write_13 : decode cX10_write 13 = .ok (.invokestatic 92, 3) := by decide +kernel
theorem dX10_write_16 : decode cX10_write 16 = .ok (.ifCond .ne 6, 3) := by decide +kernel
theorem dX10_write_19 : decode cX10_write 19 = .ok (.bipush (-2), 2) := by decide +kernel
theorem dX10_write_21 : decode cX10_write 21 = .ok (.ireturn, 1) := by decide +kernel
theorem dX10_write_22 : decode cX10_write 22 = .ok (.aload_n 0, 1) := by decide +kernel
theorem dX10_write_23 : decode cX10_write 23 = .ok (.getfield 7, 3) := by decide +kernel
theorem dX10_write_26 : decode cX10_write 26 = .ok (.iload_n 2, 1) := by decide +kernel
theorem dX10_write_27 : decode cX10_write 27 = .ok (.iaload, 1) := by decide +kernel
theorem dX10_write_28 : decode cX10_write 28 = .ok (.ifCond .ge 9, 3) := by decide +kernel
theorem dX10_write_31 : decode cX10_write 31 = .ok (.aload_n 0, 1) := by decide +kernel
theorem dX10_write_32 : decode cX10_write 32 = .ok (.iconst 1, 1) := by decide +kernel
theorem dX10_write_33 : decode cX10_write 33 = .ok (.invokevirtual 98, 3) := by decide +kernel
theorem dX10_write_36 : decode cX10_write 36 = .ok (.ireturn, 1) := by decide +kernel
theorem dX10_write_37 : decode cX10_write 37 = .ok (.aload_n 0, 1) := by decide +kernel
theorem dX10_write_38 : decode cX10_write 38 = .ok (.getfield 13, 3) := by decide +kernel
theorem dX10_write_41 : decode cX10_write 41 = .ok (.iload_n 2, 1) := by decide +kernel
theorem dX10_write_42 : decode cX10_write 42 = .ok (.iaload, 1) := by decide +kernel
theorem dX10_write_43 : decode cX10_write 43 = .ok (.bipush 40, 2) := by decide +kernel
theorem dX10_write_45 : decode cX10_write 45 = .ok (.invokestatic 282, 3) := by decide +kernel
theorem dX10_write_48 : decode cX10_write 48 = .ok (.istore_n 3, 1) := by decide +kernel
theorem dX10_write_49 : decode cX10_write 49 = .ok (.iconst 0, 1) := by decide +kernel
theorem dX10_write_50 : decode cX10_write 50 = .ok (.istore 4, 2) := by decide +kernel
theorem dX10_write_52 : decode cX10_write 52 = .ok (.iload 4, 2) := by decide +kernel
theorem dX10_write_54 : decode cX10_write 54 = .ok (.iload_n 3, 1) := by decide +kernel
theorem dX10_write_55 : decode cX10_write 55 = .ok (.if_icmp .ge 42, 3) := by decide +kernel
theorem dX10_write_58 : decode cX10_write 58 = .ok (.aload_n 0, 1) := by decide +kernel
theorem dX10_write_59 : decode cX10_write 59 = .ok (.getfield 16, 3) := by decide +kernel
theorem dX10_write_62 : decode cX10_write 62 = .ok (.bipush 60, 2) := by decide +kernel
theorem dX10_write_64 : decode cX10_write 64 = .ok (.iload_n 2, 1) := by decide +kernel
theorem dX10_write_65 : decode cX10_write 65 = .ok (.imul, 1) := by decide +kernel
theorem dX10_write_66 : decode cX10_write 66 = .ok (.iload 4, 2) := by decide +kernel
theorem dX10_write_68 : decode cX10_write 68 = .ok (.iadd, 1) := by decide +kernel
theorem dX10_write_69 : decode cX10_write 69 = .ok (.aload_n 0, 1) := by decide +kernel
theorem dX10_write_70 : decode cX10_write 70 = .ok (.getfield 7, 3) := by decide +kernel
theorem dX10_write_73 : decode cX10_write 73 = .ok (.iload_n 2, 1) := by decide +kernel
theorem dX10_write_74 : decode cX10_write 74 = .ok (.iaload, 1) := by decide +kernel
theorem dX10_write_75 : decode cX10_write 75 = .ok (.aload_n 0, 1) := by decide +kernel
theorem dX10_write_76 : decode cX10_write 76 = .ok (.getfield 56, 3) := by decide +kernel
theorem dX10_write_79 : decode cX10_write 79 = .ok (.bipush 8, 2) := by decide +kernel
theorem dX10_write_81 : decode cX10_write 81 = .ok (.iload 4, 2) := by decide +kernel
theorem dX10_write_83 : decode cX10_write 83 = .ok (.imul, 1) := by decide +kernel
theorem dX10_write_84 : decode cX10_write 84 = .ok (.iload_n 1, 1) := by decide +kernel
theorem dX10_write_85 : decode cX10_write 85 = .ok (.iadd, 1) := by decide +kernel
theorem dX10_write_86 : decode cX10_write 86 = .ok (.iaload, 1) := by decide +kernel
theorem dX10_write_87 : decode cX10_write 87 = .ok (.invokestatic 106, 3) := by decide +kernel
theorem dX10_write_90 : decode cX10_write 90 = .ok (.iastore, 1) := by decide +kernel
theorem dX10_write_91 : decode cX10_write 91 = .ok (.iinc 4 1, 3) := by decide +kernel
theorem dX10_write_94 : decode cX10_write 94 = .ok (.goto (-42), 3) := by decide +kernel
theorem dX10_write_97 : decode cX10_write 97 = .ok (.iload_n 3, 1) := by decide +kernel
theorem dX10_write_98 : decode cX10_write 98 = .ok (.ireturn, 1) := by decide +kernel
noncomputable def F10_write_p52 (kh : Int32 → Int32 → Mem → Option (Int32 × Mem)) (v1 : Int32) (v2 : Int32) (a3 : Int32) (a4 : Int32) (M : Mem) : Option (Int32 × Mem) :=
  (if a3 ≤ a4 then some (a3, M) else (ck v2 4 (ck (((8 : Int32) * a4) + v1) 320 ((F10_cut (M 1 v2.toNatClampNeg) (M 16 (((8 : Int32) * a4) + v1).toNatClampNeg)).bind (fun q14 => (ck (((60 : Int32) * v2) + a4) 240 (kh a3 (a4 + (1 : Int32)) (mset M 3 (((60 : Int32) * v2) + a4).toNatClampNeg q14))))))))
noncomputable def F10_write_h52 (v1 : Int32) (v2 : Int32) : Nat → Int32 → Int32 → Mem → Option (Int32 × Mem)
  | 0, _, _, _ => none
  | n + 1, a3, a4, M => F10_write_p52 (F10_write_h52 v1 v2 n) v1 v2 a3 a4 M
noncomputable def F10_write (v1 : Int32) (v2 : Int32) (mm : Mem) : Option (Int32 × Mem) :=
  ((F10_find mm).bind (fun q16 => ((F10_isSaying v1 q16).bind (fun q17 => (if q17 = (0 : Int32) then some ((-2 : Int32), q16) else ((F10_isSheet v2).bind (fun q18 => (if q18 = (0 : Int32) then some ((-2 : Int32), q16) else (ck v2 4 (if (0 : Int32) ≤ (q16 1 v2.toNatClampNeg) then (ck v2 4 ((F10_lesser (q16 2 v2.toNatClampNeg) (40 : Int32)).bind (fun q21 => ((F10_write_h52 v1 v2 FU) q21 (0 : Int32) q16)))) else ((F10_finds (1 : Int32) q16).bind (fun q22 => (some (q22.1, q22.2))))))))))))))
set_option maxHeartbeats 4000000 in
set_option maxRecDepth 100000 in
theorem kX10_write (l : Launch) (g : GG) (v1 : Int32) (v2 : Int32) (mc mm : Mem) (q : Int32 × Mem) (hF : F10_write v1 v2 mm = some q) : KI l yX10_write cX10_write 5 .int 7 159 g [.ref (g.1 108), .int v1, .int v2] mc mm q.1 (mc, q.2) := by
  intro sz
  refine x_start (Qc := fun z => QI g z q.1 (mc, q.2)) (by decide +kernel) (Nat.le_of_ble_eq_true rfl) ?_ sz
  intro p e s m args below meth c ls Z hr hlk hP hl
  have hx := Z.1.1
  have hb := Z.1.2.1
  have hown := Z.1.2.2.2.1
  have hts := Z.1.2.2.2.2
  have hS : va_S (AA g s.heap.size) s.heap s.heap [] := va_S.rf
  have hl : lv_has ls 5 [(0, .ref (g.1 108)), (1, .int v1), (2, .int v2)] := hl
  unfold F10_write at hF
  have hL52 : ∀ n : Nat, ∀ (a3 : Int32) (a4 : Int32) (M : Mem), F10_write_h52 v1 v2 n a3 a4 M = some q → ∀ (H : Heap) (locs : List Loc) (ls : Array Slot), lv_has ls 5 [(0, .ref (g.1 108)), (1, .int v1), (2, .int v2), (3, .int a3), (4, .int a4)] → va_P g.2.2.1 vwCl (wL g mc M) H → va_S (AA g s.heap.size) s.heap H locs → W p l e { frames := 7, cells := 0, slots := 0, locals := 159 } s m args below meth c H locs 0 0 (MQ below (QI g s.heap.size q.1 (mc, q.2)) args s 0 0 (AA g s.heap.size)) (F0 m 52 ls []) := by
    intro n
    induction n with
    | zero => intro a3 a4 M hF H locs ls hl hP hS; exact absurd hF (fun z => nomatch (show (none : Option _) = some q from z))
    | succ n ih =>
      generalize hkh : F10_write_h52 v1 v2 n = kh at ih
      intro a3 a4 M hF H locs ls hl hP hS
      have hF : F10_write_p52 (F10_write_h52 v1 v2 n) v1 v2 a3 a4 M = some q := hF
      rw [hkh] at hF
      unfold F10_write_p52 at hF
      refine lv_iload hx hb dX10_write_52 (lv_at hl 4 rfl) ?_
      refine lv_iload_n hx hb dX10_write_54 rfl (lv_at hl 3 rfl) ?_
      refine lv_icmp_ge (tgt := 97) hx hb dX10_write_55 rfl (fun hc => ?_) (fun hc => ?_)
      · have hF := (if_pos hc).symm.trans hF
        refine lv_iload_n hx hb dX10_write_97 rfl (lv_at hl 3 rfl) ?_
        exact ret_IWM Z hr hlk hP hS hF dX10_write_98
      · have hF := (if_neg hc).symm.trans hF
        refine lv_aload_n hx hb dX10_write_58 rfl (lv_at hl 0 rfl) ?_
        refine gf10_2 Z hP wd_6_6 dX10_write_59 ?_
        refine lv_bipush (v := (60 : Int32)) hx hb dX10_write_62 bp_60 ?_
        refine lv_iload_n hx hb dX10_write_64 rfl (lv_at hl 2 rfl) ?_
        refine lv_imul hx hb dX10_write_65 ?_
        refine lv_iload hx hb dX10_write_66 (lv_at hl 4 rfl) ?_
        refine lv_iadd hx hb dX10_write_68 ?_
        refine lv_aload_n hx hb dX10_write_69 rfl (lv_at hl 0 rfl) ?_
        refine gf10_0 Z hP wd_6_4 dX10_write_70 ?_
        refine lv_iload_n hx hb dX10_write_73 rfl (lv_at hl 2 rfl) ?_
        obtain ⟨hi12, hF⟩ := ck_ok hF
        refine rM_ld Z hP 4 1 (by decide +kernel) hi12 dX10_write_74 ?_
        refine lv_aload_n hx hb dX10_write_75 rfl (lv_at hl 0 rfl) ?_
        refine gf10_22 Z hP wd_6_19 dX10_write_76 ?_
        refine lv_bipush (v := (8 : Int32)) hx hb dX10_write_79 bp_8 ?_
        refine lv_iload hx hb dX10_write_81 (lv_at hl 4 rfl) ?_
        refine lv_imul hx hb dX10_write_83 ?_
        refine lv_iload_n hx hb dX10_write_84 rfl (lv_at hl 1 rfl) ?_
        refine lv_iadd hx hb dX10_write_85 ?_
        obtain ⟨hi13, hF⟩ := ck_ok hF
        refine rM_ld Z hP 320 16 (by decide +kernel) hi13 dX10_write_86 ?_
        obtain ⟨q14, hq14, hF⟩ := bd_ok hF
        refine xX10_cut Z hP hS hq14 wd_41_0 hl.1 (Nat.le_of_ble_eq_true rfl) ⟨Nat.le_of_ble_eq_true rfl, Nat.le_of_ble_eq_true rfl⟩ dX10_write_87 (fun H locs hP hS => ?_)
        obtain ⟨hi15, hF⟩ := ck_ok hF
        refine rM_st Z hP hS 240 3 (by decide +kernel) hi15 dX10_write_90 (fun H locs hP hS => ?_)
        refine lv_iinc (lv' := [(4, .int (a4 + (1 : Int32))), (0, .ref (g.1 108)), (1, .int v1), (2, .int v2), (3, .int a3)]) (v := (a4 + (1 : Int32))) hx hb dX10_write_91 hl (k := 4) rfl (io_1 _) (Nat.le_of_ble_eq_true rfl) rfl (fun ls hl => ?_)
        refine lv_goto (tgt := 52) hx hb dX10_write_94 rfl ?_
        exact ih _ _ _ hF _ _ _ (lv_sub hl [1, 2, 3, 4, 0] rfl) hP hS
  refine lv_aload_n hx hb dX10_write_0 rfl (lv_at hl 0 rfl) ?_
  obtain ⟨q16, hq16, hF⟩ := bd_ok hF
  refine xX10_find Z hP hS hq16 wd_22_5 hl.1 (Nat.le_of_ble_eq_true rfl) ⟨Nat.le_of_ble_eq_true rfl, Nat.le_of_ble_eq_true rfl⟩ dX10_write_1 (fun H locs hP hS => ?_)
  refine lv_aload_n hx hb dX10_write_4 rfl (lv_at hl 0 rfl) ?_
  refine lv_iload_n hx hb dX10_write_5 rfl (lv_at hl 1 rfl) ?_
  obtain ⟨q17, hq17, hF⟩ := bd_ok hF
  refine xX10_isSaying Z hP hS hq17 wd_17_3 hl.1 (Nat.le_of_ble_eq_true rfl) ⟨Nat.le_of_ble_eq_true rfl, Nat.le_of_ble_eq_true rfl⟩ dX10_write_6 (fun H locs hP hS => ?_)
  refine lv_if_eq (tgt := 19) hx hb dX10_write_9 rfl (fun hc => ?_) (fun hc => ?_)
  · have hF := (if_pos hc).symm.trans hF
    refine lv_bipush (v := (-2 : Int32)) hx hb dX10_write_19 bp_m2 ?_
    exact ret_IWM Z hr hlk hP hS hF dX10_write_21
  · have hF := (if_neg hc).symm.trans hF
    refine lv_iload_n hx hb dX10_write_12 rfl (lv_at hl 2 rfl) ?_
    obtain ⟨q18, hq18, hF⟩ := bd_ok hF
    refine xX10_isSheet Z hP hS hq18 wd_19_21 hl.1 (Nat.le_of_ble_eq_true rfl) ⟨Nat.le_of_ble_eq_true rfl, Nat.le_of_ble_eq_true rfl⟩ dX10_write_13 (fun H locs hP hS => ?_)
    refine lv_if_ne (tgt := 22) hx hb dX10_write_16 rfl (fun hc => ?_) (fun hc => ?_)
    · have hF := (if_neg hc).symm.trans hF
      refine lv_aload_n hx hb dX10_write_22 rfl (lv_at hl 0 rfl) ?_
      refine gf10_0 Z hP wd_6_4 dX10_write_23 ?_
      refine lv_iload_n hx hb dX10_write_26 rfl (lv_at hl 2 rfl) ?_
      obtain ⟨hi19, hF⟩ := ck_ok hF
      refine rM_ld Z hP 4 1 (by decide +kernel) hi19 dX10_write_27 ?_
      refine lv_if_ge (tgt := 37) hx hb dX10_write_28 rfl (fun hc => ?_) (fun hc => ?_)
      · have hF := (if_pos hc).symm.trans hF
        refine lv_aload_n hx hb dX10_write_37 rfl (lv_at hl 0 rfl) ?_
        refine gf10_1 Z hP wd_6_5 dX10_write_38 ?_
        refine lv_iload_n hx hb dX10_write_41 rfl (lv_at hl 2 rfl) ?_
        obtain ⟨hi20, hF⟩ := ck_ok hF
        refine rM_ld Z hP 4 2 (by decide +kernel) hi20 dX10_write_42 ?_
        refine lv_bipush (v := (40 : Int32)) hx hb dX10_write_43 bp_40 ?_
        obtain ⟨q21, hq21, hF⟩ := bd_ok hF
        refine xX10_lesser Z hP hS hq21 wd_31_21 hl.1 (Nat.le_of_ble_eq_true rfl) ⟨Nat.le_of_ble_eq_true rfl, Nat.le_of_ble_eq_true rfl⟩ dX10_write_45 (fun H locs hP hS => ?_)
        refine lv_istore_n (lv' := [(3, .int q21), (0, .ref (g.1 108)), (1, .int v1), (2, .int v2)]) hx hb dX10_write_48 rfl hl (Nat.le_of_ble_eq_true rfl) rfl (fun ls hl => ?_)
        refine lv_iconst (v := (0 : Int32)) hx hb dX10_write_49 ic_0 ?_
        refine lv_istore (lv' := [(4, .int (0 : Int32)), (3, .int q21), (0, .ref (g.1 108)), (1, .int v1), (2, .int v2)]) hx hb dX10_write_50 hl (Nat.le_of_ble_eq_true rfl) rfl (fun ls hl => ?_)
        exact (hL52 FU) _ _ _ hF _ _ _ (lv_sub hl [2, 3, 4, 1, 0] rfl) hP hS
      · have hF := (if_neg hc).symm.trans hF
        refine lv_aload_n hx hb dX10_write_31 rfl (lv_at hl 0 rfl) ?_
        refine lv_iconst (v := (1 : Int32)) hx hb dX10_write_32 ic_1 ?_
        obtain ⟨q22, hq22, hF⟩ := bd_ok hF
        refine xX10_finds Z hP hS hq22 wd_20_0 hl.1 (Nat.le_of_ble_eq_true rfl) ⟨Nat.le_of_ble_eq_true rfl, Nat.le_of_ble_eq_true rfl⟩ dX10_write_33 (fun H locs hP hS => ?_)
        exact ret_IWM Z hr hlk hP hS hF dX10_write_36
    · have hF := (if_pos hc).symm.trans hF
      refine lv_bipush (v := (-2 : Int32)) hx hb dX10_write_19 bp_m2 ?_
      exact ret_IWM Z hr hlk hP hS hF dX10_write_21
theorem xX10_write {p : Program} {l : Launch} {e : Env} {R : Room} {s : State} {m : MethodId} {args : Array Value} {below : List Frame} {meth : Method} {c : Code} {H : Heap} {locs : List Loc} {Q : State → Prop} {cc : ByteArray} {nL : Nat} {own : String} {g : GG} {pc index : Nat} {ls : Array Slot} {rest : List Value} {mc mm : Mem} (Z : ZZ p s m args c cc nL own g) (hP : va_P g.2.2.1 vwCl (wL g mc mm) H) (hS : va_S (AA g s.heap.size) s.heap H locs) {v1 : Int32} {v2 : Int32} {q : Int32 × Mem} (hq : F10_write v1 v2 mm = some q) (hlk : Cond.methodLink own index yX10_write ∈ wsL_law) (hsz : ls.size = nL) (hro : (rest.map fun v => v.category).sum ≤ 8) (hR : 7 + 1 ≤ R.frames ∧ 8 + (5 + 11) + 159 ≤ R.locals) (hdg : decode cc pc = .ok (.invokevirtual index, 3)) (kk : ∀ (H : Heap) (locs : List Loc), va_P g.2.2.1 vwCl (wL g mc q.2) H → va_S (AA g s.heap.size) s.heap H locs → W p l e R s m args below meth c H locs 0 0 Q (F0 m (pc + 3) ls (.int q.1 :: rest))) : W p l e R s m args below meth c H locs 0 0 Q (F0 m pc ls (.int v2 :: .int v1 :: .ref (g.1 108) :: rest)) :=
  x_VI Z hP hS (kX10_write l g v1 v2 mc mm q hq) (mO) (ci := 10) (by decide) rfl rfl mf_X10_write mv_X10_write hlk rfl rfl hsz hro hR hdg kk
theorem dX10_allHeard_0 : decode cX10_allHeard 0 = .ok (.iconst 0, 1) := by decide +kernel
theorem dX10_allHeard_1 : decode cX10_allHeard 1 = .ok (.istore_n 1, 1) := by decide +kernel
theorem dX10_allHeard_2 : decode cX10_allHeard 2 = .ok (.iconst 0, 1) := by decide +kernel
theorem dX10_allHeard_3 : decode cX10_allHeard 3 = .ok (.istore_n 2, 1) := by decide +kernel
theorem dX10_allHeard_4 : decode cX10_allHeard 4 = .ok (.iload_n 2, 1) := by decide +kernel
theorem dX10_allHeard_5 : decode cX10_allHeard 5 = .ok (.bipush 40, 2) := by decide +kernel
theorem dX10_allHeard_7 : decode cX10_allHeard 7 = .ok (.if_icmp .ge 39, 3) := by decide +kernel
theorem dX10_allHeard_10 : decode cX10_allHeard 10 = .ok (.iconst 0, 1) := by decide +kernel
theorem dX10_allHeard_11 : decode cX10_allHeard 11 = .ok (.istore_n 3, 1) := by decide +kernel
theorem dX10_allHeard_12 : decode cX10_allHeard 12 = .ok (.iload_n 3, 1) := by decide +kernel
theorem dX10_allHeard_13 : decode cX10_allHeard 13 = .ok (.aload_n 0, 1) := by decide +kernel
theorem dX10_allHeard_14 : decode cX10_allHeard 14 = .ok (.getfield 134, 3) := by decide +kernel
theorem dX10_allHeard_17 : decode cX10_allHeard 17 = .ok (.if_icmp .ge 23, 3) := by decide +kernel
theorem dX10_allHeard_20 : decode cX10_allHeard 20 = .ok (.iload_n 1, 1) := by decide +kernel
theorem dX10_allHeard_21 : decode cX10_allHeard 21 = .ok (.aload_n 0, 1) := by decide +kernel
theorem dX10_allHeard_22 : decode cX10_allHeard 22 = .ok (.getfield 65, 3) := by decide +kernel
theorem dX10_allHeard_25 : decode cX10_allHeard 25 = .ok (.bipush 8, 2) := by decide +kernel
theorem dX10_allHeard_27 : decode cX10_allHeard 27 = .ok (.iload_n 2, 1) := by decide +kernel
theorem dX10_allHeard_28 : decode cX10_allHeard 28 = .ok (.imul, 1) := by decide +kernel
theorem dX10_allHeard_29 : decode cX10_allHeard 29 = .ok (.iload_n 3, 1) := by decide +kernel
theorem dX10_allHeard_30 : decode cX10_allHeard 30 = .ok (.iadd, 1) := by decide +kernel
theorem dX10_allHeard_31 : decode cX10_allHeard 31 = .ok (.iaload, 1) := by decide +kernel
theorem dX10_allHeard_32 : decode cX10_allHeard 32 = .ok (.iadd, 1) := by decide +kernel
theorem dX10_allHeard_33 : decode cX10_allHeard 33 = .ok (.istore_n 1, 1) := by decide +kernel
theorem dX10_allHeard_34 : decode cX10_allHeard 34 = .ok (.iinc 3 1, 3) := by decide +kernel
theorem dX10_allHeard_37 : decode cX10_allHeard 37 = .ok (.goto (-25), 3) := by decide +kernel
theorem dX10_allHeard_40 : decode cX10_allHeard 40 = .ok (.iinc 2 1, 3) := by decide +kernel
theorem dX10_allHeard_43 : decode cX10_allHeard 43 = .ok (.goto (-39), 3) := by decide +kernel
theorem dX10_allHeard_46 : decode cX10_allHeard 46 = .ok (.iload_n 1, 1) := by decide +kernel
theorem dX10_allHeard_47 : decode cX10_allHeard 47 = .ok (.ireturn, 1) := by decide +kernel
noncomputable def F10_allHeard_b40 (kh : Int32 → Int32 → Option (Int32)) (mm : Mem) (a1 : Int32) (a2 : Int32) : Option (Int32) :=
  kh a1 (a2 + (1 : Int32))
noncomputable def F10_allHeard_p12 (kh : Int32 → Int32 → Int32 → Option (Int32)) (kx40 : Int32 → Int32 → Option (Int32)) (mm : Mem) (a1 : Int32) (a2 : Int32) (a3 : Int32) : Option (Int32) :=
  (if (mm 0 9) ≤ a3 then kx40 a1 a2 else (ck (((8 : Int32) * a2) + a3) 320 (kh (a1 + (mm 19 (((8 : Int32) * a2) + a3).toNatClampNeg)) a2 (a3 + (1 : Int32)))))
noncomputable def F10_allHeard_h12 (kx40 : Int32 → Int32 → Option (Int32)) (mm : Mem) : Nat → Int32 → Int32 → Int32 → Option (Int32)
  | 0, _, _, _ => none
  | n + 1, a1, a2, a3 => F10_allHeard_p12 (F10_allHeard_h12 kx40 mm n) kx40 mm a1 a2 a3
noncomputable def F10_allHeard_p4 (kh : Int32 → Int32 → Option (Int32)) (mm : Mem) (a1 : Int32) (a2 : Int32) : Option (Int32) :=
  (if (40 : Int32) ≤ a2 then some a1 else (F10_allHeard_h12 (F10_allHeard_b40 kh mm) mm FU) a1 a2 (0 : Int32))
noncomputable def F10_allHeard_h4 (mm : Mem) : Nat → Int32 → Int32 → Option (Int32)
  | 0, _, _ => none
  | n + 1, a1, a2 => F10_allHeard_p4 (F10_allHeard_h4 mm n) mm a1 a2
noncomputable def F10_allHeard (mm : Mem) : Option (Int32) :=
  (F10_allHeard_h4 mm FU) (0 : Int32) (0 : Int32)
set_option maxHeartbeats 4000000 in
set_option maxRecDepth 100000 in
theorem kX10_allHeard (l : Launch) (g : GG) (mc mm : Mem) (q : Int32) (hF : F10_allHeard mm = some q) : KI l yX10_allHeard cX10_allHeard 4 .int 0 0 g [.ref (g.1 108)] mc mm q (mc, mm) := by
  intro sz
  refine x_start (Qc := fun z => QI g z q (mc, mm)) (by decide +kernel) (Nat.le_of_ble_eq_true rfl) ?_ sz
  intro p e s m args below meth c ls Z hr hlk hP hl
  have hx := Z.1.1
  have hb := Z.1.2.1
  have hown := Z.1.2.2.2.1
  have hts := Z.1.2.2.2.2
  have hS : va_S (AA g s.heap.size) s.heap s.heap [] := va_S.rf
  have hl : lv_has ls 4 [(0, .ref (g.1 108))] := hl
  unfold F10_allHeard at hF
  have hL4 : ∀ n : Nat, ∀ (a1 : Int32) (a2 : Int32), F10_allHeard_h4 mm n a1 a2 = some q → ∀ (H : Heap) (locs : List Loc) (ls : Array Slot), lv_has ls 4 [(0, .ref (g.1 108)), (1, .int a1), (2, .int a2)] → va_P g.2.2.1 vwCl (wL g mc mm) H → va_S (AA g s.heap.size) s.heap H locs → W p l e { frames := 0, cells := 0, slots := 0, locals := 0 } s m args below meth c H locs 0 0 (MQ below (QI g s.heap.size q (mc, mm)) args s 0 0 (AA g s.heap.size)) (F0 m 4 ls []) := by
    intro n
    induction n with
    | zero => intro a1 a2 hF H locs ls hl hP hS; exact absurd hF (fun z => nomatch (show (none : Option _) = some q from z))
    | succ n ih =>
      generalize hkh : F10_allHeard_h4 mm n = kh at ih
      have hb40 : ∀ (a1 : Int32) (a2 : Int32), F10_allHeard_b40 kh mm a1 a2 = some q → ∀ (H : Heap) (locs : List Loc) (ls : Array Slot), lv_has ls 4 [(0, .ref (g.1 108)), (1, .int a1), (2, .int a2)] → va_P g.2.2.1 vwCl (wL g mc mm) H → va_S (AA g s.heap.size) s.heap H locs → W p l e { frames := 0, cells := 0, slots := 0, locals := 0 } s m args below meth c H locs 0 0 (MQ below (QI g s.heap.size q (mc, mm)) args s 0 0 (AA g s.heap.size)) (F0 m 40 ls []) := by
        intro a1 a2 hF H locs ls hl hP hS
        unfold F10_allHeard_b40 at hF
        refine lv_iinc (lv' := [(2, .int (a2 + (1 : Int32))), (0, .ref (g.1 108)), (1, .int a1)]) (v := (a2 + (1 : Int32))) hx hb dX10_allHeard_40 hl (k := 2) rfl (io_1 _) (Nat.le_of_ble_eq_true rfl) rfl (fun ls hl => ?_)
        refine lv_goto (tgt := 4) hx hb dX10_allHeard_43 rfl ?_
        exact ih _ _ hF _ _ _ (lv_sub hl [1, 2, 0] rfl) hP hS
      have hL12 : ∀ (kx40 : Int32 → Int32 → Option (Int32)), (∀ (a1 : Int32) (a2 : Int32), kx40 a1 a2 = some q → ∀ (H : Heap) (locs : List Loc) (ls : Array Slot), lv_has ls 4 [(0, .ref (g.1 108)), (1, .int a1), (2, .int a2)] → va_P g.2.2.1 vwCl (wL g mc mm) H → va_S (AA g s.heap.size) s.heap H locs → W p l e { frames := 0, cells := 0, slots := 0, locals := 0 } s m args below meth c H locs 0 0 (MQ below (QI g s.heap.size q (mc, mm)) args s 0 0 (AA g s.heap.size)) (F0 m 40 ls [])) → ∀ n : Nat, ∀ (a1 : Int32) (a2 : Int32) (a3 : Int32), F10_allHeard_h12 kx40 mm n a1 a2 a3 = some q → ∀ (H : Heap) (locs : List Loc) (ls : Array Slot), lv_has ls 4 [(0, .ref (g.1 108)), (1, .int a1), (2, .int a2), (3, .int a3)] → va_P g.2.2.1 vwCl (wL g mc mm) H → va_S (AA g s.heap.size) s.heap H locs → W p l e { frames := 0, cells := 0, slots := 0, locals := 0 } s m args below meth c H locs 0 0 (MQ below (QI g s.heap.size q (mc, mm)) args s 0 0 (AA g s.heap.size)) (F0 m 12 ls []) := by
        intro kx40 hx40 n
        induction n with
        | zero => intro a1 a2 a3 hF H locs ls hl hP hS; exact absurd hF (fun z => nomatch (show (none : Option _) = some q from z))
        | succ n ih =>
          generalize hkh : F10_allHeard_h12 kx40 mm n = kh at ih
          intro a1 a2 a3 hF H locs ls hl hP hS
          have hF : F10_allHeard_p12 (F10_allHeard_h12 kx40 mm n) kx40 mm a1 a2 a3 = some q := hF
          rw [hkh] at hF
          unfold F10_allHeard_p12 at hF
          refine lv_iload_n hx hb dX10_allHeard_12 rfl (lv_at hl 3 rfl) ?_
          refine lv_aload_n hx hb dX10_allHeard_13 rfl (lv_at hl 0 rfl) ?_
          refine gf10_9 Z hP wd_15_5 dX10_allHeard_14 ?_
          refine lv_icmp_ge (tgt := 40) hx hb dX10_allHeard_17 rfl (fun hc => ?_) (fun hc => ?_)
          · have hF := (if_pos hc).symm.trans hF
            exact hx40 _ _ hF _ _ _ (lv_sub hl [0, 1, 2] rfl) hP hS
          · have hF := (if_neg hc).symm.trans hF
            refine lv_iload_n hx hb dX10_allHeard_20 rfl (lv_at hl 1 rfl) ?_
            refine lv_aload_n hx hb dX10_allHeard_21 rfl (lv_at hl 0 rfl) ?_
            refine gf10_25 Z hP wd_6_22 dX10_allHeard_22 ?_
            refine lv_bipush (v := (8 : Int32)) hx hb dX10_allHeard_25 bp_8 ?_
            refine lv_iload_n hx hb dX10_allHeard_27 rfl (lv_at hl 2 rfl) ?_
            refine lv_imul hx hb dX10_allHeard_28 ?_
            refine lv_iload_n hx hb dX10_allHeard_29 rfl (lv_at hl 3 rfl) ?_
            refine lv_iadd hx hb dX10_allHeard_30 ?_
            obtain ⟨hi2, hF⟩ := ck_ok hF
            refine rM_ld Z hP 320 19 (by decide +kernel) hi2 dX10_allHeard_31 ?_
            refine lv_iadd hx hb dX10_allHeard_32 ?_
            refine lv_istore_n (lv' := [(1, .int (a1 + (mm 19 (((8 : Int32) * a2) + a3).toNatClampNeg))), (0, .ref (g.1 108)), (2, .int a2), (3, .int a3)]) hx hb dX10_allHeard_33 rfl hl (Nat.le_of_ble_eq_true rfl) rfl (fun ls hl => ?_)
            refine lv_iinc (lv' := [(3, .int (a3 + (1 : Int32))), (1, .int (a1 + (mm 19 (((8 : Int32) * a2) + a3).toNatClampNeg))), (0, .ref (g.1 108)), (2, .int a2)]) (v := (a3 + (1 : Int32))) hx hb dX10_allHeard_34 hl (k := 3) rfl (io_1 _) (Nat.le_of_ble_eq_true rfl) rfl (fun ls hl => ?_)
            refine lv_goto (tgt := 12) hx hb dX10_allHeard_37 rfl ?_
            exact ih _ _ _ hF _ _ _ (lv_sub hl [2, 1, 3, 0] rfl) hP hS
      intro a1 a2 hF H locs ls hl hP hS
      have hF : F10_allHeard_p4 (F10_allHeard_h4 mm n) mm a1 a2 = some q := hF
      rw [hkh] at hF
      unfold F10_allHeard_p4 at hF
      refine lv_iload_n hx hb dX10_allHeard_4 rfl (lv_at hl 2 rfl) ?_
      refine lv_bipush (v := (40 : Int32)) hx hb dX10_allHeard_5 bp_40 ?_
      refine lv_icmp_ge (tgt := 46) hx hb dX10_allHeard_7 rfl (fun hc => ?_) (fun hc => ?_)
      · have hF := (if_pos hc).symm.trans hF
        refine lv_iload_n hx hb dX10_allHeard_46 rfl (lv_at hl 1 rfl) ?_
        exact ret_I Z hr hlk hP hS hF dX10_allHeard_47
      · have hF := (if_neg hc).symm.trans hF
        refine lv_iconst (v := (0 : Int32)) hx hb dX10_allHeard_10 ic_0 ?_
        refine lv_istore_n (lv' := [(3, .int (0 : Int32)), (0, .ref (g.1 108)), (1, .int a1), (2, .int a2)]) hx hb dX10_allHeard_11 rfl hl (Nat.le_of_ble_eq_true rfl) rfl (fun ls hl => ?_)
        exact (hL12 _ hb40 FU) _ _ _ hF _ _ _ (lv_sub hl [1, 2, 3, 0] rfl) hP hS
  refine lv_iconst (v := (0 : Int32)) hx hb dX10_allHeard_0 ic_0 ?_
  refine lv_istore_n (lv' := [(1, .int (0 : Int32)), (0, .ref (g.1 108))]) hx hb dX10_allHeard_1 rfl hl (Nat.le_of_ble_eq_true rfl) rfl (fun ls hl => ?_)
  refine lv_iconst (v := (0 : Int32)) hx hb dX10_allHeard_2 ic_0 ?_
  refine lv_istore_n (lv' := [(2, .int (0 : Int32)), (1, .int (0 : Int32)), (0, .ref (g.1 108))]) hx hb dX10_allHeard_3 rfl hl (Nat.le_of_ble_eq_true rfl) rfl (fun ls hl => ?_)
  exact (hL4 FU) _ _ hF _ _ _ (lv_sub hl [2, 1, 0] rfl) hP hS
theorem xX10_allHeard {p : Program} {l : Launch} {e : Env} {R : Room} {s : State} {m : MethodId} {args : Array Value} {below : List Frame} {meth : Method} {c : Code} {H : Heap} {locs : List Loc} {Q : State → Prop} {cc : ByteArray} {nL : Nat} {own : String} {g : GG} {pc index : Nat} {ls : Array Slot} {rest : List Value} {mc mm : Mem} (Z : ZZ p s m args c cc nL own g) (hP : va_P g.2.2.1 vwCl (wL g mc mm) H) (hS : va_S (AA g s.heap.size) s.heap H locs) {q : Int32} (hq : F10_allHeard mm = some q) (hlk : Cond.methodLink own index yX10_allHeard ∈ wsL_law) (hsz : ls.size = nL) (hro : (rest.map fun v => v.category).sum ≤ 8) (hR : 0 + 1 ≤ R.frames ∧ 8 + (4 + 11) + 0 ≤ R.locals) (hdg : decode cc pc = .ok (.invokevirtual index, 3)) (kk : ∀ (H : Heap) (locs : List Loc), va_P g.2.2.1 vwCl (wL g mc mm) H → va_S (AA g s.heap.size) s.heap H locs → W p l e R s m args below meth c H locs 0 0 Q (F0 m (pc + 3) ls (.int q :: rest))) : W p l e R s m args below meth c H locs 0 0 Q (F0 m pc ls (.ref (g.1 108) :: rest)) :=
  x_VI Z hP hS (kX10_allHeard l g mc mm q hq) (mO) (ci := 10) (by decide) rfl rfl mf_X10_allHeard mv_X10_allHeard hlk rfl rfl hsz hro hR hdg kk
theorem dX10_count_0 : decode cX10_count 0 = .ok (.aload_n 0, 1) := by decide +kernel
theorem dX10_count_1 : decode cX10_count 1 = .ok (.invokevirtual 236, 3) := by decide +kernel
theorem dX10_count_4 : decode cX10_count 4 = .ok (.iload_n 1, 1) := by decide +kernel
theorem dX10_count_5 : decode cX10_count 5 = .ok (.tableswitch 98 0 8 #[51, 56, 61, 61, 70, 75, 83, 88, 93], 51) := by decide +kernel
theorem dX10_count_56 : decode cX10_count 56 = .ok (.aload_n 0, 1) := by decide +kernel
theorem dX10_count_57 : decode cX10_count 57 = .ok (.getfield 120, 3) := by decide +kernel
theorem dX10_count_60 : decode cX10_count 60 = .ok (.ireturn, 1) := by decide +kernel
theorem dX10_count_61 : decode cX10_count 61 = .ok (.aload_n 0, 1) := by decide +kernel
theorem dX10_count_62 : decode cX10_count 62 = .ok (.getfield 134, 3) := by decide +kernel
theorem dX10_count_65 : decode cX10_count 65 = .ok (.ireturn, 1) := by decide +kernel
theorem dX10_count_66 : decode cX10_count 66 = .ok (.aload_n 0, 1) := by decide +kernel
theorem dX10_count_67 : decode cX10_count 67 = .ok (.getfield 25, 3) := by decide +kernel
theorem dX10_count_70 : decode cX10_count 70 = .ok (.iload_n 1, 1) := by decide +kernel
theorem dX10_count_71 : decode cX10_count 71 = .ok (.iconst 2, 1) := by decide +kernel
theorem dX10_count_72 : decode cX10_count 72 = .ok (.isub, 1) := by decide +kernel
theorem dX10_count_73 : decode cX10_count 73 = .ok (.iaload, 1) := by decide +kernel
theorem dX10_count_74 : decode cX10_count 74 = .ok (.ireturn, 1) := by decide +kernel
theorem dX10_count_75 : decode cX10_count 75 = .ok (.aload_n 0, 1) := by decide +kernel
theorem dX10_count_76 : decode cX10_count 76 = .ok (.getfield 172, 3) := by decide +kernel
theorem dX10_count_79 : decode cX10_count 79 = .ok (.ireturn, 1) := by decide +kernel
theorem dX10_count_80 : decode cX10_count 80 = .ok (.aload_n 0, 1) := by decide +kernel
theorem dX10_count_81 : decode cX10_count 81 = .ok (.invokevirtual 253, 3) := by decide +kernel
theorem dX10_count_84 : decode cX10_count 84 = .ok (.invokestatic 262, 3) := by decide +kernel
theorem dX10_count_87 : decode cX10_count 87 = .ok (.ireturn, 1) := by decide +kernel
theorem dX10_count_88 : decode cX10_count 88 = .ok (.aload_n 0, 1) := by decide +kernel
theorem dX10_count_89 : decode cX10_count 89 = .ok (.invokevirtual 342, 3) := by decide +kernel
theorem dX10_count_92 : decode cX10_count 92 = .ok (.ireturn, 1) := by decide +kernel
theorem dX10_count_93 : decode cX10_count 93 = .ok (.aload_n 0, 1) := by decide +kernel
theorem dX10_count_94 : decode cX10_count 94 = .ok (.getfield 288, 3) := by decide +kernel
theorem dX10_count_97 : decode cX10_count 97 = .ok (.ireturn, 1) := by decide +kernel
theorem dX10_count_98 : decode cX10_count 98 = .ok (.aload_n 0, 1) := by decide +kernel
theorem dX10_count_99 : decode cX10_count 99 = .ok (.getfield 87, 3) := by decide +kernel
theorem dX10_count_102 : decode cX10_count 102 = .ok (.ireturn, 1) := by decide +kernel
theorem dX10_count_103 : decode cX10_count 103 = .ok (.bipush (-2), 2) := by decide +kernel
theorem dX10_count_105 : decode cX10_count 105 = .ok (.ireturn, 1) := by decide +kernel
noncomputable def F10_count (v1 : Int32) (mm : Mem) : Option (Int32 × Mem) :=
  ((F10_find mm).bind (fun q6 => (if v1 = (0 : Int32) then some ((q6 0 7), q6) else (if v1 = (1 : Int32) then some ((q6 0 9), q6) else (if v1 = (2 : Int32) then (ck (v1 - (2 : Int32)) 2 (some ((q6 6 (v1 - (2 : Int32)).toNatClampNeg), q6))) else (if v1 = (3 : Int32) then (ck (v1 - (2 : Int32)) 2 (some ((q6 6 (v1 - (2 : Int32)).toNatClampNeg), q6))) else (if v1 = (4 : Int32) then some ((q6 0 11), q6) else (if v1 = (5 : Int32) then ((F10_goneNow q6).bind (fun q15 => ((F10_ones q15).bind (fun q16 => (some (q16, q6)))))) else (if v1 = (6 : Int32) then ((F10_allHeard q6).bind (fun q18 => (some (q18, q6)))) else (if v1 = (7 : Int32) then some ((q6 0 26), q6) else (if v1 = (8 : Int32) then some ((q6 0 4), q6) else some ((-2 : Int32), q6))))))))))))
set_option maxHeartbeats 4000000 in
set_option maxRecDepth 100000 in
theorem kX10_count (l : Launch) (g : GG) (v1 : Int32) (mc mm : Mem) (q : Int32 × Mem) (hF : F10_count v1 mm = some q) : KI l yX10_count cX10_count 2 .int 7 159 g [.ref (g.1 108), .int v1] mc mm q.1 (mc, q.2) := by
  intro sz
  refine x_start (Qc := fun z => QI g z q.1 (mc, q.2)) (by decide +kernel) (Nat.le_of_ble_eq_true rfl) ?_ sz
  intro p e s m args below meth c ls Z hr hlk hP hl
  have hx := Z.1.1
  have hb := Z.1.2.1
  have hown := Z.1.2.2.2.1
  have hts := Z.1.2.2.2.2
  have hS : va_S (AA g s.heap.size) s.heap s.heap [] := va_S.rf
  have hl : lv_has ls 2 [(0, .ref (g.1 108)), (1, .int v1)] := hl
  unfold F10_count at hF
  refine lv_aload_n hx hb dX10_count_0 rfl (lv_at hl 0 rfl) ?_
  obtain ⟨q6, hq6, hF⟩ := bd_ok hF
  refine xX10_find Z hP hS hq6 wd_22_5 hl.1 (Nat.le_of_ble_eq_true rfl) ⟨Nat.le_of_ble_eq_true rfl, Nat.le_of_ble_eq_true rfl⟩ dX10_count_1 (fun H locs hP hS => ?_)
  refine lv_iload_n hx hb dX10_count_4 rfl (lv_at hl 1 rfl) ?_
  by_cases hc7 : v1 = (0 : Int32)
  · have hF := (if_pos hc7).symm.trans hF
    refine lv_tableIn (off := 51) (tgt := 56) hx hb dX10_count_5 (by rw [hc7]; decide) (by rw [hc7]; decide) (by rw [hc7]; rfl) rfl ?_
    refine lv_aload_n hx hb dX10_count_56 rfl (lv_at hl 0 rfl) ?_
    refine gf10_7 Z hP wd_14_19 dX10_count_57 ?_
    exact ret_IWM Z hr hlk hP hS hF dX10_count_60
  have hF := (if_neg hc7).symm.trans hF
  by_cases hc8 : v1 = (1 : Int32)
  · have hF := (if_pos hc8).symm.trans hF
    refine lv_tableIn (off := 56) (tgt := 61) hx hb dX10_count_5 (by rw [hc8]; decide) (by rw [hc8]; decide) (by rw [hc8]; rfl) rfl ?_
    refine lv_aload_n hx hb dX10_count_61 rfl (lv_at hl 0 rfl) ?_
    refine gf10_9 Z hP wd_15_5 dX10_count_62 ?_
    exact ret_IWM Z hr hlk hP hS hF dX10_count_65
  have hF := (if_neg hc8).symm.trans hF
  by_cases hc9 : v1 = (2 : Int32)
  · have hF := (if_pos hc9).symm.trans hF
    refine lv_tableIn (off := 61) (tgt := 66) hx hb dX10_count_5 (by rw [hc9]; decide) (by rw [hc9]; decide) (by rw [hc9]; rfl) rfl ?_
    refine lv_aload_n hx hb dX10_count_66 rfl (lv_at hl 0 rfl) ?_
    refine gf10_6 Z hP wd_6_9 dX10_count_67 ?_
    refine lv_iload_n hx hb dX10_count_70 rfl (lv_at hl 1 rfl) ?_
    refine lv_iconst (v := (2 : Int32)) hx hb dX10_count_71 ic_2 ?_
    refine lv_isub hx hb dX10_count_72 ?_
    obtain ⟨hi10, hF⟩ := ck_ok hF
    refine rM_ld Z hP 2 6 (by decide +kernel) hi10 dX10_count_73 ?_
    exact ret_IWM Z hr hlk hP hS hF dX10_count_74
  have hF := (if_neg hc9).symm.trans hF
  by_cases hc11 : v1 = (3 : Int32)
  · have hF := (if_pos hc11).symm.trans hF
    refine lv_tableIn (off := 61) (tgt := 66) hx hb dX10_count_5 (by rw [hc11]; decide) (by rw [hc11]; decide) (by rw [hc11]; rfl) rfl ?_
    refine lv_aload_n hx hb dX10_count_66 rfl (lv_at hl 0 rfl) ?_
    refine gf10_6 Z hP wd_6_9 dX10_count_67 ?_
    refine lv_iload_n hx hb dX10_count_70 rfl (lv_at hl 1 rfl) ?_
    refine lv_iconst (v := (2 : Int32)) hx hb dX10_count_71 ic_2 ?_
    refine lv_isub hx hb dX10_count_72 ?_
    obtain ⟨hi12, hF⟩ := ck_ok hF
    refine rM_ld Z hP 2 6 (by decide +kernel) hi12 dX10_count_73 ?_
    exact ret_IWM Z hr hlk hP hS hF dX10_count_74
  have hF := (if_neg hc11).symm.trans hF
  by_cases hc13 : v1 = (4 : Int32)
  · have hF := (if_pos hc13).symm.trans hF
    refine lv_tableIn (off := 70) (tgt := 75) hx hb dX10_count_5 (by rw [hc13]; decide) (by rw [hc13]; decide) (by rw [hc13]; rfl) rfl ?_
    refine lv_aload_n hx hb dX10_count_75 rfl (lv_at hl 0 rfl) ?_
    refine gf10_11 Z hP wd_18_4 dX10_count_76 ?_
    exact ret_IWM Z hr hlk hP hS hF dX10_count_79
  have hF := (if_neg hc13).symm.trans hF
  by_cases hc14 : v1 = (5 : Int32)
  · have hF := (if_pos hc14).symm.trans hF
    refine lv_tableIn (off := 75) (tgt := 80) hx hb dX10_count_5 (by rw [hc14]; decide) (by rw [hc14]; decide) (by rw [hc14]; rfl) rfl ?_
    refine lv_aload_n hx hb dX10_count_80 rfl (lv_at hl 0 rfl) ?_
    obtain ⟨q15, hq15, hF⟩ := bd_ok hF
    refine xX10_goneNow Z hP hS hq15 wd_26_18 hl.1 (Nat.le_of_ble_eq_true rfl) ⟨Nat.le_of_ble_eq_true rfl, Nat.le_of_ble_eq_true rfl⟩ dX10_count_81 (fun H locs hP hS => ?_)
    obtain ⟨q16, hq16, hF⟩ := bd_ok hF
    refine xX10_ones Z hP hS hq16 wd_29_10 hl.1 (Nat.le_of_ble_eq_true rfl) ⟨Nat.le_of_ble_eq_true rfl, Nat.le_of_ble_eq_true rfl⟩ dX10_count_84 (fun H locs hP hS => ?_)
    exact ret_IWM Z hr hlk hP hS hF dX10_count_87
  have hF := (if_neg hc14).symm.trans hF
  by_cases hc17 : v1 = (6 : Int32)
  · have hF := (if_pos hc17).symm.trans hF
    refine lv_tableIn (off := 83) (tgt := 88) hx hb dX10_count_5 (by rw [hc17]; decide) (by rw [hc17]; decide) (by rw [hc17]; rfl) rfl ?_
    refine lv_aload_n hx hb dX10_count_88 rfl (lv_at hl 0 rfl) ?_
    obtain ⟨q18, hq18, hF⟩ := bd_ok hF
    refine xX10_allHeard Z hP hS hq18 wd_43_6 hl.1 (Nat.le_of_ble_eq_true rfl) ⟨Nat.le_of_ble_eq_true rfl, Nat.le_of_ble_eq_true rfl⟩ dX10_count_89 (fun H locs hP hS => ?_)
    exact ret_IWM Z hr hlk hP hS hF dX10_count_92
  have hF := (if_neg hc17).symm.trans hF
  by_cases hc19 : v1 = (7 : Int32)
  · have hF := (if_pos hc19).symm.trans hF
    refine lv_tableIn (off := 88) (tgt := 93) hx hb dX10_count_5 (by rw [hc19]; decide) (by rw [hc19]; decide) (by rw [hc19]; rfl) rfl ?_
    refine lv_aload_n hx hb dX10_count_93 rfl (lv_at hl 0 rfl) ?_
    refine gf10_26 Z hP wd_32_13 dX10_count_94 ?_
    exact ret_IWM Z hr hlk hP hS hF dX10_count_97
  have hF := (if_neg hc19).symm.trans hF
  by_cases hc20 : v1 = (8 : Int32)
  · have hF := (if_pos hc20).symm.trans hF
    refine lv_tableIn (off := 93) (tgt := 98) hx hb dX10_count_5 (by rw [hc20]; decide) (by rw [hc20]; decide) (by rw [hc20]; rfl) rfl ?_
    refine lv_aload_n hx hb dX10_count_98 rfl (lv_at hl 0 rfl) ?_
    refine gf10_4 Z hP wd_20_4 dX10_count_99 ?_
    exact ret_IWM Z hr hlk hP hS hF dX10_count_102
  have hF := (if_neg hc20).symm.trans hF
  refine lv_tableOut (tgt := 103) hx hb dX10_count_5 (sw_9 hc7 hc8 hc9 hc11 hc13 hc14 hc17 hc19 hc20) rfl ?_
  refine lv_bipush (v := (-2 : Int32)) hx hb dX10_count_103 bp_m2 ?_
  exact ret_IWM Z hr hlk hP hS hF dX10_count_105
theorem xX10_count {p : Program} {l : Launch} {e : Env} {R : Room} {s : State} {m : MethodId} {args : Array Value} {below : List Frame} {meth : Method} {c : Code} {H : Heap} {locs : List Loc} {Q : State → Prop} {cc : ByteArray} {nL : Nat} {own : String} {g : GG} {pc index : Nat} {ls : Array Slot} {rest : List Value} {mc mm : Mem} (Z : ZZ p s m args c cc nL own g) (hP : va_P g.2.2.1 vwCl (wL g mc mm) H) (hS : va_S (AA g s.heap.size) s.heap H locs) {v1 : Int32} {q : Int32 × Mem} (hq : F10_count v1 mm = some q) (hlk : Cond.methodLink own index yX10_count ∈ wsL_law) (hsz : ls.size = nL) (hro : (rest.map fun v => v.category).sum ≤ 8) (hR : 7 + 1 ≤ R.frames ∧ 8 + (2 + 11) + 159 ≤ R.locals) (hdg : decode cc pc = .ok (.invokevirtual index, 3)) (kk : ∀ (H : Heap) (locs : List Loc), va_P g.2.2.1 vwCl (wL g mc q.2) H → va_S (AA g s.heap.size) s.heap H locs → W p l e R s m args below meth c H locs 0 0 Q (F0 m (pc + 3) ls (.int q.1 :: rest))) : W p l e R s m args below meth c H locs 0 0 Q (F0 m pc ls (.int v1 :: .ref (g.1 108) :: rest)) :=
  x_VI Z hP hS (kX10_count l g v1 mc mm q hq) (mO) (ci := 10) (by decide) rfl rfl mf_X10_count mv_X10_count hlk rfl rfl hsz hro hR hdg kk

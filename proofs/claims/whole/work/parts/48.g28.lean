theorem dX10_openOf_0 : decode cX10_openOf 0 = .ok (.aload_n 0, 1) := by decide +kernel
theorem dX10_openOf_1 : decode cX10_openOf 1 = .ok (.iload_n 1, 1) := by decide +kernel
theorem dX10_openOf_2 : decode cX10_openOf 2 = .ok (.iconst 0, 1) := by decide +kernel
theorem dX10_openOf_3 : decode cX10_openOf 3 = .ok (.invokevirtual 271, 3) := by decide +kernel
theorem dX10_openOf_6 : decode cX10_openOf 6 = .ok (.ifCond .eq 14, 3) := by decide +kernel
theorem dX10_openOf_9 : decode cX10_openOf 9 = .ok (.iload_n 2, 1) := by decide +kernel
theorem dX10_openOf_10 : decode cX10_openOf 10 = .ok (.iconst (-1), 1) := by decide +kernel
theorem dX10_openOf_11 : decode cX10_openOf 11 = .ok (.if_icmp .ne 7, 3) := by decide +kernel
theorem dX10_openOf_14 : decode cX10_openOf 14 = .ok (.iconst 0, 1) := by decide +kernel
theorem dX10_openOf_15 : decode cX10_openOf 15 = .ok (.goto 4, 3) := by decide +kernel
theorem dX10_openOf_18 : decode cX10_openOf 18 = .ok (.iconst (-1), 1) := by decide +kernel
theorem dX10_openOf_19 : decode cX10_openOf 19 = .ok (.ireturn, 1) := by decide +kernel
theorem dX10_openOf_20 : decode cX10_openOf 20 = .ok (.iconst 0, 1) := by decide +kernel
theorem dX10_openOf_21 : decode cX10_openOf 21 = .ok (.istore_n 3, 1) := by decide +kernel
theorem dX10_openOf_22 : decode cX10_openOf 22 = .ok (.iload_n 3, 1) := by decide +kernel
theorem dX10_openOf_23 : decode cX10_openOf 23 = .ok (.aload_n 0, 1) := by decide +kernel
theorem dX10_openOf_24 : decode cX10_openOf 24 = .ok (.getfield 172, 3) := by decide +kernel
theorem dX10_openOf_27 : decode cX10_openOf 27 = .ok (.if_icmp .ge 47, 3) := by decide +kernel
theorem dX10_openOf_30 : decode cX10_openOf 30 = .ok (.aload_n 0, 1) := by decide +kernel
theorem dX10_openOf_31 : decode cX10_openOf 31 = .ok (.iload_n 3, 1) := by decide +kernel
theorem dX10_openOf_32 : decode cX10_openOf 32 = .ok (.invokevirtual 274, 3) := by decide +kernel
theorem dX10_openOf_35 : decode cX10_openOf 35 = .ok (.ifCond .eq 33, 3) := by decide +kernel
theorem dX10_openOf_38 : decode cX10_openOf 38 = .ok (.aload_n 0, 1) := by decide +kernel
theorem dX10_openOf_39 : decode cX10_openOf 39 = .ok (.iload_n 1, 1) := by decide +kernel
theorem dX10_openOf_40 : decode cX10_openOf 40 = .ok (.iconst 1, 1) := by decide +kernel
theorem dX10_openOf_41 : decode cX10_openOf 41 = .ok (.iload_n 3, 1) := by decide +kernel
theorem dX10_openOf_42 : decode cX10_openOf 42 = .ok (.ishl, 1) := by decide +kernel
theorem dX10_openOf_43 : decode cX10_openOf 43 = .ok (.invokevirtual 271, 3) := by decide +kernel
theorem dX10_openOf_46 : decode cX10_openOf 46 = .ok (.ifCond .eq 22, 3) := by decide +kernel
theorem dX10_openOf_49 : decode cX10_openOf 49 = .ok (.iload_n 2, 1) := by decide +kernel
theorem dX10_openOf_50 : decode cX10_openOf 50 = .ok (.iconst (-1), 1) := by decide +kernel
theorem dX10_openOf_51 : decode cX10_openOf 51 = .ok (.if_icmp .ne 7, 3) := by decide +kernel
theorem dX10_openOf_54 : decode cX10_openOf 54 = .ok (.iconst 1, 1) := by decide +kernel
theorem dX10_openOf_55 : decode cX10_openOf 55 = .ok (.goto 12, 3) := by decide +kernel
theorem dX10_openOf_58 : decode cX10_openOf 58 = .ok (.iload_n 2, 1) := by decide +kernel
theorem dX10_openOf_59 : decode cX10_openOf 59 = .ok (.ifCond .ne 7, 3) := by decide +kernel
theorem dX10_openOf_62 : decode cX10_openOf 62 = .ok (.iload_n 3, 1) := by decide +kernel
theorem dX10_openOf_63 : decode cX10_openOf 63 = .ok (.goto 4, 3) := by decide +kernel
theorem dX10_openOf_66 : decode cX10_openOf 66 = .ok (.iconst (-1), 1) := by decide +kernel
theorem dX10_openOf_67 : decode cX10_openOf 67 = .ok (.ireturn, 1) := by decide +kernel
theorem dX10_openOf_68 : decode cX10_openOf 68 = .ok (.iinc 3 1, 3) := by decide +kernel
theorem dX10_openOf_71 : decode cX10_openOf 71 = .ok (.goto (-49), 3) := by decide +kernel
theorem dX10_openOf_74 : decode cX10_openOf 74 = .ok (.iconst 0, 1) := by decide +kernel
theorem dX10_openOf_75 : decode cX10_openOf 75 = .ok (.istore_n 3, 1) := by decide +kernel
theorem dX10_openOf_76 : decode cX10_openOf 76 = .ok (.iload_n 3, 1) := by decide +kernel
theorem dX10_openOf_77 : decode cX10_openOf 77 = .ok (.aload_n 0, 1) := by decide +kernel
theorem dX10_openOf_78 : decode cX10_openOf 78 = .ok (.getfield 172, 3) := by decide +kernel
theorem dX10_openOf_81 : decode cX10_openOf 81 = .ok (.if_icmp .ge 82, 3) := by decide +kernel
theorem dX10_openOf_84 : decode cX10_openOf 84 = .ok (.iload_n 3, 1) := by decide +kernel
theorem dX10_openOf_85 : decode cX10_openOf 85 = .ok (.iconst 1, 1) := by decide +kernel
theorem dX10_openOf_86 : decode cX10_openOf 86 = .ok (.iadd, 1) := by decide +kernel
theorem dX10_openOf_87 : decode cX10_openOf 87 = .ok (.istore 4, 2) := by decide +kernel
theorem dX10_openOf_89 : decode cX10_openOf 89 = .ok (.iload 4, 2) := by decide +kernel
theorem dX10_openOf_91 : decode cX10_openOf 91 = .ok (.aload_n 0, 1) := by decide +kernel
theorem dX10_openOf_92 : decode cX10_openOf 92 = .ok (.getfield 172, 3) := by decide +kernel
theorem dX10_openOf_95 : decode cX10_openOf 95 = .ok (.if_icmp .ge 62, 3) := by decide +kernel
theorem dX10_openOf_98 : decode cX10_openOf 98 = .ok (.aload_n 0, 1) := by decide +kernel
theorem dX10_openOf_99 : decode cX10_openOf 99 = .ok (.iload_n 3, 1) := by decide +kernel
theorem dX10_openOf_100 : decode cX10_openOf 100 = .ok (.invokevirtual 274, 3) := by decide +kernel
theorem dX10_openOf_103 : decode cX10_openOf 103 = .ok (.ifCond .eq 48, 3) := by decide +kernel
theorem dX10_openOf_106 : decode cX10_openOf 106 = .ok (.aload_n 0, 1) := by decide +kernel
theorem dX10_openOf_107 : decode cX10_openOf 107 = .ok (.iload 4, 2) := by decide +kernel
theorem dX10_openOf_109 : decode cX10_openOf 109 = .ok (.invokevirtual 274, 3) := by decide +kernel
theorem dX10_openOf_112 : decode cX10_openOf 112 = .ok (.ifCond .eq 39, 3) := by decide +kernel
theorem dX10_openOf_115 : decode cX10_openOf 115 = .ok (.aload_n 0, 1) := by decide +kernel
theorem dX10_openOf_116 : decode cX10_openOf 116 = .ok (.iload_n 1, 1) := by decide +kernel
theorem dX10_openOf_117 : decode cX10_openOf 117 = .ok (.iconst 1, 1) := by decide +kernel
theorem dX10_openOf_118 : decode cX10_openOf 118 = .ok (.iload_n 3, 1) := by decide +kernel
theorem dX10_openOf_119 : decode cX10_openOf 119 = .ok (.ishl, 1) := by decide +kernel
theorem dX10_openOf_120 : decode cX10_openOf 120 = .ok (.iconst 1, 1) := by decide +kernel
theorem dX10_openOf_121 : decode cX10_openOf 121 = .ok (.iload 4, 2) := by decide +kernel
theorem dX10_openOf_123 : decode cX10_openOf 123 = .ok (.ishl, 1) := by decide +kernel
theorem dX10_openOf_124 : decode cX10_openOf 124 = .ok (.ior, 1) := by decide +kernel
theorem dX10_openOf_125 : decode cX10_openOf 125 = .ok (.invokevirtual 271, 3) := by decide +kernel
theorem dX10_openOf_128 : decode cX10_openOf 128 = .ok (.ifCond .eq 23, 3) := by decide +kernel
theorem dX10_openOf_131 : decode cX10_openOf 131 = .ok (.iload_n 2, 1) := by decide +kernel
theorem dX10_openOf_132 : decode cX10_openOf 132 = .ok (.iconst (-1), 1) := by decide +kernel
theorem dX10_openOf_133 : decode cX10_openOf 133 = .ok (.if_icmp .ne 7, 3) := by decide +kernel
theorem dX10_openOf_136 : decode cX10_openOf 136 = .ok (.iconst 2, 1) := by decide +kernel
theorem dX10_openOf_137 : decode cX10_openOf 137 = .ok (.goto 13, 3) := by decide +kernel
theorem dX10_openOf_140 : decode cX10_openOf 140 = .ok (.iload_n 2, 1) := by decide +kernel
theorem dX10_openOf_141 : decode cX10_openOf 141 = .ok (.ifCond .ne 7, 3) := by decide +kernel
theorem dX10_openOf_144 : decode cX10_openOf 144 = .ok (.iload_n 3, 1) := by decide +kernel
theorem dX10_openOf_145 : decode cX10_openOf 145 = .ok (.goto 5, 3) := by decide +kernel
theorem dX10_openOf_148 : decode cX10_openOf 148 = .ok (.iload 4, 2) := by decide +kernel
theorem dX10_openOf_150 : decode cX10_openOf 150 = .ok (.ireturn, 1) := by decide +kernel
theorem dX10_openOf_151 : decode cX10_openOf 151 = .ok (.iinc 4 1, 3) := by decide +kernel
theorem dX10_openOf_154 : decode cX10_openOf 154 = .ok (.goto (-65), 3) := by decide +kernel
theorem dX10_openOf_157 : decode cX10_openOf 157 = .ok (.iinc 3 1, 3) := by decide +kernel
theorem dX10_openOf_160 : decode cX10_openOf 160 = .ok (.goto (-84), 3) := by decide +kernel
theorem dX10_openOf_163 : decode cX10_openOf 163 = .ok (.iconst (-1), 1) := by decide +kernel
theorem dX10_openOf_164 : decode cX10_openOf 164 = .ok (.ireturn, 1) := by decide +kernel
noncomputable def F10_openOf_b131 (v1 : Int32) (v2 : Int32) (a3 : Int32) (a4 : Int32) (M : Mem) : Option (Int32 × Mem) :=
  (if v2 = (-1 : Int32) then some ((2 : Int32), M) else (if v2 = (0 : Int32) then some (a3, M) else some (a4, M)))
noncomputable def F10_openOf_b157 (kh : Int32 → Mem → Option (Int32 × Mem)) (kx131 : Int32 → Int32 → Mem → Option (Int32 × Mem)) (v1 : Int32) (v2 : Int32) (a3 : Int32) (M : Mem) : Option (Int32 × Mem) :=
  kh (a3 + (1 : Int32)) M
noncomputable def F10_openOf_b151 (kh : Int32 → Int32 → Mem → Option (Int32 × Mem)) (kx131 : Int32 → Int32 → Mem → Option (Int32 × Mem)) (kx157 : Int32 → Mem → Option (Int32 × Mem)) (v1 : Int32) (v2 : Int32) (a3 : Int32) (a4 : Int32) (M : Mem) : Option (Int32 × Mem) :=
  kh a3 (a4 + (1 : Int32)) M
noncomputable def F10_openOf_p89 (kh : Int32 → Int32 → Mem → Option (Int32 × Mem)) (kx131 : Int32 → Int32 → Mem → Option (Int32 × Mem)) (kx157 : Int32 → Mem → Option (Int32 × Mem)) (v1 : Int32) (v2 : Int32) (a3 : Int32) (a4 : Int32) (M : Mem) : Option (Int32 × Mem) :=
  (if (M 0 11) ≤ a4 then kx157 a3 M else ((F10_isLid a3 M).bind (fun q7 => (if q7 = (0 : Int32) then (F10_openOf_b151 kh kx131 kx157 v1 v2) a3 a4 M else ((F10_isLid a4 M).bind (fun q8 => (if q8 = (0 : Int32) then (F10_openOf_b151 kh kx131 kx157 v1 v2) a3 a4 M else ((F10_isOpen v1 (((1 : Int32) <<< (a3 &&& (31 : Int32))) ||| ((1 : Int32) <<< (a4 &&& (31 : Int32)))) M).bind (fun q9 => (if q9.1 = (0 : Int32) then (F10_openOf_b151 kh kx131 kx157 v1 v2) a3 a4 q9.2 else kx131 a3 a4 q9.2))))))))))
noncomputable def F10_openOf_h89 (kx131 : Int32 → Int32 → Mem → Option (Int32 × Mem)) (kx157 : Int32 → Mem → Option (Int32 × Mem)) (v1 : Int32) (v2 : Int32) : Nat → Int32 → Int32 → Mem → Option (Int32 × Mem)
  | 0, _, _, _ => none
  | n + 1, a3, a4, M => F10_openOf_p89 (F10_openOf_h89 kx131 kx157 v1 v2 n) kx131 kx157 v1 v2 a3 a4 M
noncomputable def F10_openOf_p76 (kh : Int32 → Mem → Option (Int32 × Mem)) (kx131 : Int32 → Int32 → Mem → Option (Int32 × Mem)) (v1 : Int32) (v2 : Int32) (a3 : Int32) (M : Mem) : Option (Int32 × Mem) :=
  (if (M 0 11) ≤ a3 then some ((-1 : Int32), M) else (F10_openOf_h89 kx131 (F10_openOf_b157 kh kx131 v1 v2) v1 v2 FU) a3 (a3 + (1 : Int32)) M)
noncomputable def F10_openOf_h76 (kx131 : Int32 → Int32 → Mem → Option (Int32 × Mem)) (v1 : Int32) (v2 : Int32) : Nat → Int32 → Mem → Option (Int32 × Mem)
  | 0, _, _ => none
  | n + 1, a3, M => F10_openOf_p76 (F10_openOf_h76 kx131 v1 v2 n) kx131 v1 v2 a3 M
noncomputable def F10_openOf_b74 (v1 : Int32) (v2 : Int32) (M : Mem) : Option (Int32 × Mem) :=
  (F10_openOf_h76 (F10_openOf_b131 v1 v2) v1 v2 FU) (0 : Int32) M
noncomputable def F10_openOf_b49 (v1 : Int32) (v2 : Int32) (a3 : Int32) (M : Mem) : Option (Int32 × Mem) :=
  (if v2 = (-1 : Int32) then some ((1 : Int32), M) else (if v2 = (0 : Int32) then some (a3, M) else some ((-1 : Int32), M)))
noncomputable def F10_openOf_b68 (kh : Int32 → Mem → Option (Int32 × Mem)) (kx49 : Int32 → Mem → Option (Int32 × Mem)) (kx74 : Mem → Option (Int32 × Mem)) (v1 : Int32) (v2 : Int32) (a3 : Int32) (M : Mem) : Option (Int32 × Mem) :=
  kh (a3 + (1 : Int32)) M
noncomputable def F10_openOf_p22 (kh : Int32 → Mem → Option (Int32 × Mem)) (kx49 : Int32 → Mem → Option (Int32 × Mem)) (kx74 : Mem → Option (Int32 × Mem)) (v1 : Int32) (v2 : Int32) (a3 : Int32) (M : Mem) : Option (Int32 × Mem) :=
  (if (M 0 11) ≤ a3 then kx74 M else ((F10_isLid a3 M).bind (fun q10 => (if q10 = (0 : Int32) then (F10_openOf_b68 kh kx49 kx74 v1 v2) a3 M else ((F10_isOpen v1 ((1 : Int32) <<< (a3 &&& (31 : Int32))) M).bind (fun q11 => (if q11.1 = (0 : Int32) then (F10_openOf_b68 kh kx49 kx74 v1 v2) a3 q11.2 else kx49 a3 q11.2)))))))
noncomputable def F10_openOf_h22 (kx49 : Int32 → Mem → Option (Int32 × Mem)) (kx74 : Mem → Option (Int32 × Mem)) (v1 : Int32) (v2 : Int32) : Nat → Int32 → Mem → Option (Int32 × Mem)
  | 0, _, _ => none
  | n + 1, a3, M => F10_openOf_p22 (F10_openOf_h22 kx49 kx74 v1 v2 n) kx49 kx74 v1 v2 a3 M
noncomputable def F10_openOf (v1 : Int32) (v2 : Int32) (mm : Mem) : Option (Int32 × Mem) :=
  ((F10_isOpen v1 (0 : Int32) mm).bind (fun q12 => (if q12.1 = (0 : Int32) then (F10_openOf_h22 (F10_openOf_b49 v1 v2) (F10_openOf_b74 v1 v2) v1 v2 FU) (0 : Int32) q12.2 else (if v2 = (-1 : Int32) then some ((0 : Int32), q12.2) else some ((-1 : Int32), q12.2)))))
set_option maxHeartbeats 4000000 in
set_option maxRecDepth 100000 in
theorem kX10_openOf (l : Launch) (g : GG) (v1 : Int32) (v2 : Int32) (mc mm : Mem) (q : Int32 × Mem) (hF : F10_openOf v1 v2 mm = some q) : KI l yX10_openOf cX10_openOf 5 .int 7 161 g [.ref (g.1 108), .int v1, .int v2] mc mm q.1 (mc, q.2) := by
  intro sz
  refine x_start (Qc := fun z => QI g z q.1 (mc, q.2)) (by decide +kernel) (Nat.le_of_ble_eq_true rfl) ?_ sz
  intro p e s m args below meth c ls Z hr hlk hP hl
  have hx := Z.1.1
  have hb := Z.1.2.1
  have hown := Z.1.2.2.2.1
  have hts := Z.1.2.2.2.2
  have hS : va_S (AA g s.heap.size) s.heap s.heap [] := va_S.rf
  have hl : lv_has ls 5 [(0, .ref (g.1 108)), (1, .int v1), (2, .int v2)] := hl
  unfold F10_openOf at hF
  have hb131 : ∀ (a3 : Int32) (a4 : Int32) (M : Mem), F10_openOf_b131 v1 v2 a3 a4 M = some q → ∀ (H : Heap) (locs : List Loc) (ls : Array Slot), lv_has ls 5 [(2, .int v2), (3, .int a3), (4, .int a4)] → va_P g.2.2.1 vwCl (wL g mc M) H → va_S (AA g s.heap.size) s.heap H locs → W p l e { frames := 7, cells := 0, slots := 0, locals := 161 } s m args below meth c H locs 0 0 (MQ below (QI g s.heap.size q.1 (mc, q.2)) args s 0 0 (AA g s.heap.size)) (F0 m 131 ls []) := by
    intro a3 a4 M hF H locs ls hl hP hS
    unfold F10_openOf_b131 at hF
    refine lv_iload_n hx hb dX10_openOf_131 rfl (lv_at hl 0 rfl) ?_
    refine lv_iconst (v := (-1 : Int32)) hx hb dX10_openOf_132 ic_m1 ?_
    refine lv_icmp_ne (tgt := 140) hx hb dX10_openOf_133 rfl (fun hc => ?_) (fun hc => ?_)
    · have hF := (if_neg hc).symm.trans hF
      refine lv_iload_n hx hb dX10_openOf_140 rfl (lv_at hl 0 rfl) ?_
      refine lv_if_ne (tgt := 148) hx hb dX10_openOf_141 rfl (fun hc => ?_) (fun hc => ?_)
      · have hF := (if_neg hc).symm.trans hF
        refine lv_iload hx hb dX10_openOf_148 (lv_at hl 2 rfl) ?_
        exact ret_IWM Z hr hlk hP hS hF dX10_openOf_150
      · have hF := (if_pos hc).symm.trans hF
        refine lv_iload_n hx hb dX10_openOf_144 rfl (lv_at hl 1 rfl) ?_
        refine lv_goto (tgt := 150) hx hb dX10_openOf_145 rfl ?_
        exact ret_IWM Z hr hlk hP hS hF dX10_openOf_150
    · have hF := (if_pos hc).symm.trans hF
      refine lv_iconst (v := (2 : Int32)) hx hb dX10_openOf_136 ic_2 ?_
      refine lv_goto (tgt := 150) hx hb dX10_openOf_137 rfl ?_
      exact ret_IWM Z hr hlk hP hS hF dX10_openOf_150
  have hL76 : ∀ (kx131 : Int32 → Int32 → Mem → Option (Int32 × Mem)), (∀ (a3 : Int32) (a4 : Int32) (M : Mem), kx131 a3 a4 M = some q → ∀ (H : Heap) (locs : List Loc) (ls : Array Slot), lv_has ls 5 [(2, .int v2), (3, .int a3), (4, .int a4)] → va_P g.2.2.1 vwCl (wL g mc M) H → va_S (AA g s.heap.size) s.heap H locs → W p l e { frames := 7, cells := 0, slots := 0, locals := 161 } s m args below meth c H locs 0 0 (MQ below (QI g s.heap.size q.1 (mc, q.2)) args s 0 0 (AA g s.heap.size)) (F0 m 131 ls [])) → ∀ n : Nat, ∀ (a3 : Int32) (M : Mem), F10_openOf_h76 kx131 v1 v2 n a3 M = some q → ∀ (H : Heap) (locs : List Loc) (ls : Array Slot), lv_has ls 5 [(0, .ref (g.1 108)), (1, .int v1), (2, .int v2), (3, .int a3)] → va_P g.2.2.1 vwCl (wL g mc M) H → va_S (AA g s.heap.size) s.heap H locs → W p l e { frames := 7, cells := 0, slots := 0, locals := 161 } s m args below meth c H locs 0 0 (MQ below (QI g s.heap.size q.1 (mc, q.2)) args s 0 0 (AA g s.heap.size)) (F0 m 76 ls []) := by
    intro kx131 hx131 n
    induction n with
    | zero => intro a3 M hF H locs ls hl hP hS; exact absurd hF (fun z => nomatch (show (none : Option _) = some q from z))
    | succ n ih =>
      generalize hkh : F10_openOf_h76 kx131 v1 v2 n = kh at ih
      have hb157 : ∀ (a3 : Int32) (M : Mem), F10_openOf_b157 kh kx131 v1 v2 a3 M = some q → ∀ (H : Heap) (locs : List Loc) (ls : Array Slot), lv_has ls 5 [(0, .ref (g.1 108)), (1, .int v1), (2, .int v2), (3, .int a3)] → va_P g.2.2.1 vwCl (wL g mc M) H → va_S (AA g s.heap.size) s.heap H locs → W p l e { frames := 7, cells := 0, slots := 0, locals := 161 } s m args below meth c H locs 0 0 (MQ below (QI g s.heap.size q.1 (mc, q.2)) args s 0 0 (AA g s.heap.size)) (F0 m 157 ls []) := by
        intro a3 M hF H locs ls hl hP hS
        unfold F10_openOf_b157 at hF
        refine lv_iinc (lv' := [(3, .int (a3 + (1 : Int32))), (0, .ref (g.1 108)), (1, .int v1), (2, .int v2)]) (v := (a3 + (1 : Int32))) hx hb dX10_openOf_157 hl (k := 3) rfl (io_1 _) (Nat.le_of_ble_eq_true rfl) rfl (fun ls hl => ?_)
        refine lv_goto (tgt := 76) hx hb dX10_openOf_160 rfl ?_
        exact ih _ _ hF _ _ _ (lv_sub hl [1, 2, 3, 0] rfl) hP hS
      have hL89 : ∀ (kx131 : Int32 → Int32 → Mem → Option (Int32 × Mem)) (kx157 : Int32 → Mem → Option (Int32 × Mem)), (∀ (a3 : Int32) (a4 : Int32) (M : Mem), kx131 a3 a4 M = some q → ∀ (H : Heap) (locs : List Loc) (ls : Array Slot), lv_has ls 5 [(2, .int v2), (3, .int a3), (4, .int a4)] → va_P g.2.2.1 vwCl (wL g mc M) H → va_S (AA g s.heap.size) s.heap H locs → W p l e { frames := 7, cells := 0, slots := 0, locals := 161 } s m args below meth c H locs 0 0 (MQ below (QI g s.heap.size q.1 (mc, q.2)) args s 0 0 (AA g s.heap.size)) (F0 m 131 ls [])) → (∀ (a3 : Int32) (M : Mem), kx157 a3 M = some q → ∀ (H : Heap) (locs : List Loc) (ls : Array Slot), lv_has ls 5 [(0, .ref (g.1 108)), (1, .int v1), (2, .int v2), (3, .int a3)] → va_P g.2.2.1 vwCl (wL g mc M) H → va_S (AA g s.heap.size) s.heap H locs → W p l e { frames := 7, cells := 0, slots := 0, locals := 161 } s m args below meth c H locs 0 0 (MQ below (QI g s.heap.size q.1 (mc, q.2)) args s 0 0 (AA g s.heap.size)) (F0 m 157 ls [])) → ∀ n : Nat, ∀ (a3 : Int32) (a4 : Int32) (M : Mem), F10_openOf_h89 kx131 kx157 v1 v2 n a3 a4 M = some q → ∀ (H : Heap) (locs : List Loc) (ls : Array Slot), lv_has ls 5 [(0, .ref (g.1 108)), (1, .int v1), (2, .int v2), (3, .int a3), (4, .int a4)] → va_P g.2.2.1 vwCl (wL g mc M) H → va_S (AA g s.heap.size) s.heap H locs → W p l e { frames := 7, cells := 0, slots := 0, locals := 161 } s m args below meth c H locs 0 0 (MQ below (QI g s.heap.size q.1 (mc, q.2)) args s 0 0 (AA g s.heap.size)) (F0 m 89 ls []) := by
        intro kx131 kx157 hx131 hx157 n
        induction n with
        | zero => intro a3 a4 M hF H locs ls hl hP hS; exact absurd hF (fun z => nomatch (show (none : Option _) = some q from z))
        | succ n ih =>
          generalize hkh : F10_openOf_h89 kx131 kx157 v1 v2 n = kh at ih
          have hb151 : ∀ (a3 : Int32) (a4 : Int32) (M : Mem), F10_openOf_b151 kh kx131 kx157 v1 v2 a3 a4 M = some q → ∀ (H : Heap) (locs : List Loc) (ls : Array Slot), lv_has ls 5 [(0, .ref (g.1 108)), (1, .int v1), (2, .int v2), (3, .int a3), (4, .int a4)] → va_P g.2.2.1 vwCl (wL g mc M) H → va_S (AA g s.heap.size) s.heap H locs → W p l e { frames := 7, cells := 0, slots := 0, locals := 161 } s m args below meth c H locs 0 0 (MQ below (QI g s.heap.size q.1 (mc, q.2)) args s 0 0 (AA g s.heap.size)) (F0 m 151 ls []) := by
            intro a3 a4 M hF H locs ls hl hP hS
            unfold F10_openOf_b151 at hF
            refine lv_iinc (lv' := [(4, .int (a4 + (1 : Int32))), (0, .ref (g.1 108)), (1, .int v1), (2, .int v2), (3, .int a3)]) (v := (a4 + (1 : Int32))) hx hb dX10_openOf_151 hl (k := 4) rfl (io_1 _) (Nat.le_of_ble_eq_true rfl) rfl (fun ls hl => ?_)
            refine lv_goto (tgt := 89) hx hb dX10_openOf_154 rfl ?_
            exact ih _ _ _ hF _ _ _ (lv_sub hl [1, 2, 3, 4, 0] rfl) hP hS
          intro a3 a4 M hF H locs ls hl hP hS
          have hF : F10_openOf_p89 (F10_openOf_h89 kx131 kx157 v1 v2 n) kx131 kx157 v1 v2 a3 a4 M = some q := hF
          rw [hkh] at hF
          unfold F10_openOf_p89 at hF
          refine lv_iload hx hb dX10_openOf_89 (lv_at hl 4 rfl) ?_
          refine lv_aload_n hx hb dX10_openOf_91 rfl (lv_at hl 0 rfl) ?_
          refine gf10_11 Z hP wd_18_4 dX10_openOf_92 ?_
          refine lv_icmp_ge (tgt := 157) hx hb dX10_openOf_95 rfl (fun hc => ?_) (fun hc => ?_)
          · have hF := (if_pos hc).symm.trans hF
            exact hx157 _ _ hF _ _ _ (lv_sub hl [0, 1, 2, 3] rfl) hP hS
          · have hF := (if_neg hc).symm.trans hF
            refine lv_aload_n hx hb dX10_openOf_98 rfl (lv_at hl 0 rfl) ?_
            refine lv_iload_n hx hb dX10_openOf_99 rfl (lv_at hl 3 rfl) ?_
            obtain ⟨q7, hq7, hF⟩ := bd_ok hF
            refine xX10_isLid Z hP hS hq7 wd_30_21 hl.1 (Nat.le_of_ble_eq_true rfl) ⟨Nat.le_of_ble_eq_true rfl, Nat.le_of_ble_eq_true rfl⟩ dX10_openOf_100 (fun H locs hP hS => ?_)
            refine lv_if_eq (tgt := 151) hx hb dX10_openOf_103 rfl (fun hc => ?_) (fun hc => ?_)
            · have hF := (if_pos hc).symm.trans hF
              exact hb151 _ _ _ hF _ _ _ (lv_sub hl [0, 1, 2, 3, 4] rfl) hP hS
            · have hF := (if_neg hc).symm.trans hF
              refine lv_aload_n hx hb dX10_openOf_106 rfl (lv_at hl 0 rfl) ?_
              refine lv_iload hx hb dX10_openOf_107 (lv_at hl 4 rfl) ?_
              obtain ⟨q8, hq8, hF⟩ := bd_ok hF
              refine xX10_isLid Z hP hS hq8 wd_30_21 hl.1 (Nat.le_of_ble_eq_true rfl) ⟨Nat.le_of_ble_eq_true rfl, Nat.le_of_ble_eq_true rfl⟩ dX10_openOf_109 (fun H locs hP hS => ?_)
              refine lv_if_eq (tgt := 151) hx hb dX10_openOf_112 rfl (fun hc => ?_) (fun hc => ?_)
              · have hF := (if_pos hc).symm.trans hF
                exact hb151 _ _ _ hF _ _ _ (lv_sub hl [0, 1, 2, 3, 4] rfl) hP hS
              · have hF := (if_neg hc).symm.trans hF
                refine lv_aload_n hx hb dX10_openOf_115 rfl (lv_at hl 0 rfl) ?_
                refine lv_iload_n hx hb dX10_openOf_116 rfl (lv_at hl 1 rfl) ?_
                refine lv_iconst (v := (1 : Int32)) hx hb dX10_openOf_117 ic_1 ?_
                refine lv_iload_n hx hb dX10_openOf_118 rfl (lv_at hl 3 rfl) ?_
                refine lv_ishl hx hb dX10_openOf_119 ?_
                refine lv_iconst (v := (1 : Int32)) hx hb dX10_openOf_120 ic_1 ?_
                refine lv_iload hx hb dX10_openOf_121 (lv_at hl 4 rfl) ?_
                refine lv_ishl hx hb dX10_openOf_123 ?_
                refine lv_ior hx hb dX10_openOf_124 ?_
                obtain ⟨q9, hq9, hF⟩ := bd_ok hF
                refine xX10_isOpen Z hP hS hq9 wd_30_17 hl.1 (Nat.le_of_ble_eq_true rfl) ⟨Nat.le_of_ble_eq_true rfl, Nat.le_of_ble_eq_true rfl⟩ dX10_openOf_125 (fun H locs hP hS => ?_)
                refine lv_if_eq (tgt := 151) hx hb dX10_openOf_128 rfl (fun hc => ?_) (fun hc => ?_)
                · have hF := (if_pos hc).symm.trans hF
                  exact hb151 _ _ _ hF _ _ _ (lv_sub hl [0, 1, 2, 3, 4] rfl) hP hS
                · have hF := (if_neg hc).symm.trans hF
                  exact hx131 _ _ _ hF _ _ _ (lv_sub hl [2, 3, 4] rfl) hP hS
      intro a3 M hF H locs ls hl hP hS
      have hF : F10_openOf_p76 (F10_openOf_h76 kx131 v1 v2 n) kx131 v1 v2 a3 M = some q := hF
      rw [hkh] at hF
      unfold F10_openOf_p76 at hF
      refine lv_iload_n hx hb dX10_openOf_76 rfl (lv_at hl 3 rfl) ?_
      refine lv_aload_n hx hb dX10_openOf_77 rfl (lv_at hl 0 rfl) ?_
      refine gf10_11 Z hP wd_18_4 dX10_openOf_78 ?_
      refine lv_icmp_ge (tgt := 163) hx hb dX10_openOf_81 rfl (fun hc => ?_) (fun hc => ?_)
      · have hF := (if_pos hc).symm.trans hF
        refine lv_iconst (v := (-1 : Int32)) hx hb dX10_openOf_163 ic_m1 ?_
        exact ret_IWM Z hr hlk hP hS hF dX10_openOf_164
      · have hF := (if_neg hc).symm.trans hF
        refine lv_iload_n hx hb dX10_openOf_84 rfl (lv_at hl 3 rfl) ?_
        refine lv_iconst (v := (1 : Int32)) hx hb dX10_openOf_85 ic_1 ?_
        refine lv_iadd hx hb dX10_openOf_86 ?_
        refine lv_istore (lv' := [(4, .int (a3 + (1 : Int32))), (0, .ref (g.1 108)), (1, .int v1), (2, .int v2), (3, .int a3)]) hx hb dX10_openOf_87 hl (Nat.le_of_ble_eq_true rfl) rfl (fun ls hl => ?_)
        exact (hL89 _ _ hx131 hb157 FU) _ _ _ hF _ _ _ (lv_sub hl [1, 2, 3, 4, 0] rfl) hP hS
  have hb74 : ∀  (M : Mem), F10_openOf_b74 v1 v2 M = some q → ∀ (H : Heap) (locs : List Loc) (ls : Array Slot), lv_has ls 5 [(0, .ref (g.1 108)), (1, .int v1), (2, .int v2)] → va_P g.2.2.1 vwCl (wL g mc M) H → va_S (AA g s.heap.size) s.heap H locs → W p l e { frames := 7, cells := 0, slots := 0, locals := 161 } s m args below meth c H locs 0 0 (MQ below (QI g s.heap.size q.1 (mc, q.2)) args s 0 0 (AA g s.heap.size)) (F0 m 74 ls []) := by
    intro M hF H locs ls hl hP hS
    unfold F10_openOf_b74 at hF
    refine lv_iconst (v := (0 : Int32)) hx hb dX10_openOf_74 ic_0 ?_
    refine lv_istore_n (lv' := [(3, .int (0 : Int32)), (0, .ref (g.1 108)), (1, .int v1), (2, .int v2)]) hx hb dX10_openOf_75 rfl hl (Nat.le_of_ble_eq_true rfl) rfl (fun ls hl => ?_)
    exact (hL76 _ hb131 FU) _ _ hF _ _ _ (lv_sub hl [1, 2, 3, 0] rfl) hP hS
  have hb49 : ∀ (a3 : Int32) (M : Mem), F10_openOf_b49 v1 v2 a3 M = some q → ∀ (H : Heap) (locs : List Loc) (ls : Array Slot), lv_has ls 5 [(2, .int v2), (3, .int a3)] → va_P g.2.2.1 vwCl (wL g mc M) H → va_S (AA g s.heap.size) s.heap H locs → W p l e { frames := 7, cells := 0, slots := 0, locals := 161 } s m args below meth c H locs 0 0 (MQ below (QI g s.heap.size q.1 (mc, q.2)) args s 0 0 (AA g s.heap.size)) (F0 m 49 ls []) := by
    intro a3 M hF H locs ls hl hP hS
    unfold F10_openOf_b49 at hF
    refine lv_iload_n hx hb dX10_openOf_49 rfl (lv_at hl 0 rfl) ?_
    refine lv_iconst (v := (-1 : Int32)) hx hb dX10_openOf_50 ic_m1 ?_
    refine lv_icmp_ne (tgt := 58) hx hb dX10_openOf_51 rfl (fun hc => ?_) (fun hc => ?_)
    · have hF := (if_neg hc).symm.trans hF
      refine lv_iload_n hx hb dX10_openOf_58 rfl (lv_at hl 0 rfl) ?_
      refine lv_if_ne (tgt := 66) hx hb dX10_openOf_59 rfl (fun hc => ?_) (fun hc => ?_)
      · have hF := (if_neg hc).symm.trans hF
        refine lv_iconst (v := (-1 : Int32)) hx hb dX10_openOf_66 ic_m1 ?_
        exact ret_IWM Z hr hlk hP hS hF dX10_openOf_67
      · have hF := (if_pos hc).symm.trans hF
        refine lv_iload_n hx hb dX10_openOf_62 rfl (lv_at hl 1 rfl) ?_
        refine lv_goto (tgt := 67) hx hb dX10_openOf_63 rfl ?_
        exact ret_IWM Z hr hlk hP hS hF dX10_openOf_67
    · have hF := (if_pos hc).symm.trans hF
      refine lv_iconst (v := (1 : Int32)) hx hb dX10_openOf_54 ic_1 ?_
      refine lv_goto (tgt := 67) hx hb dX10_openOf_55 rfl ?_
      exact ret_IWM Z hr hlk hP hS hF dX10_openOf_67
  have hL22 : ∀ (kx49 : Int32 → Mem → Option (Int32 × Mem)) (kx74 : Mem → Option (Int32 × Mem)), (∀ (a3 : Int32) (M : Mem), kx49 a3 M = some q → ∀ (H : Heap) (locs : List Loc) (ls : Array Slot), lv_has ls 5 [(2, .int v2), (3, .int a3)] → va_P g.2.2.1 vwCl (wL g mc M) H → va_S (AA g s.heap.size) s.heap H locs → W p l e { frames := 7, cells := 0, slots := 0, locals := 161 } s m args below meth c H locs 0 0 (MQ below (QI g s.heap.size q.1 (mc, q.2)) args s 0 0 (AA g s.heap.size)) (F0 m 49 ls [])) → (∀  (M : Mem), kx74 M = some q → ∀ (H : Heap) (locs : List Loc) (ls : Array Slot), lv_has ls 5 [(0, .ref (g.1 108)), (1, .int v1), (2, .int v2)] → va_P g.2.2.1 vwCl (wL g mc M) H → va_S (AA g s.heap.size) s.heap H locs → W p l e { frames := 7, cells := 0, slots := 0, locals := 161 } s m args below meth c H locs 0 0 (MQ below (QI g s.heap.size q.1 (mc, q.2)) args s 0 0 (AA g s.heap.size)) (F0 m 74 ls [])) → ∀ n : Nat, ∀ (a3 : Int32) (M : Mem), F10_openOf_h22 kx49 kx74 v1 v2 n a3 M = some q → ∀ (H : Heap) (locs : List Loc) (ls : Array Slot), lv_has ls 5 [(0, .ref (g.1 108)), (1, .int v1), (2, .int v2), (3, .int a3)] → va_P g.2.2.1 vwCl (wL g mc M) H → va_S (AA g s.heap.size) s.heap H locs → W p l e { frames := 7, cells := 0, slots := 0, locals := 161 } s m args below meth c H locs 0 0 (MQ below (QI g s.heap.size q.1 (mc, q.2)) args s 0 0 (AA g s.heap.size)) (F0 m 22 ls []) := by
    intro kx49 kx74 hx49 hx74 n
    induction n with
    | zero => intro a3 M hF H locs ls hl hP hS; exact absurd hF (fun z => nomatch (show (none : Option _) = some q from z))
    | succ n ih =>
      generalize hkh : F10_openOf_h22 kx49 kx74 v1 v2 n = kh at ih
      have hb68 : ∀ (a3 : Int32) (M : Mem), F10_openOf_b68 kh kx49 kx74 v1 v2 a3 M = some q → ∀ (H : Heap) (locs : List Loc) (ls : Array Slot), lv_has ls 5 [(0, .ref (g.1 108)), (1, .int v1), (2, .int v2), (3, .int a3)] → va_P g.2.2.1 vwCl (wL g mc M) H → va_S (AA g s.heap.size) s.heap H locs → W p l e { frames := 7, cells := 0, slots := 0, locals := 161 } s m args below meth c H locs 0 0 (MQ below (QI g s.heap.size q.1 (mc, q.2)) args s 0 0 (AA g s.heap.size)) (F0 m 68 ls []) := by
        intro a3 M hF H locs ls hl hP hS
        unfold F10_openOf_b68 at hF
        refine lv_iinc (lv' := [(3, .int (a3 + (1 : Int32))), (0, .ref (g.1 108)), (1, .int v1), (2, .int v2)]) (v := (a3 + (1 : Int32))) hx hb dX10_openOf_68 hl (k := 3) rfl (io_1 _) (Nat.le_of_ble_eq_true rfl) rfl (fun ls hl => ?_)
        refine lv_goto (tgt := 22) hx hb dX10_openOf_71 rfl ?_
        exact ih _ _ hF _ _ _ (lv_sub hl [1, 2, 3, 0] rfl) hP hS
      intro a3 M hF H locs ls hl hP hS
      have hF : F10_openOf_p22 (F10_openOf_h22 kx49 kx74 v1 v2 n) kx49 kx74 v1 v2 a3 M = some q := hF
      rw [hkh] at hF
      unfold F10_openOf_p22 at hF
      refine lv_iload_n hx hb dX10_openOf_22 rfl (lv_at hl 3 rfl) ?_
      refine lv_aload_n hx hb dX10_openOf_23 rfl (lv_at hl 0 rfl) ?_
      refine gf10_11 Z hP wd_18_4 dX10_openOf_24 ?_
      refine lv_icmp_ge (tgt := 74) hx hb dX10_openOf_27 rfl (fun hc => ?_) (fun hc => ?_)
      · have hF := (if_pos hc).symm.trans hF
        exact hx74 _ hF _ _ _ (lv_sub hl [0, 1, 2] rfl) hP hS
      · have hF := (if_neg hc).symm.trans hF
        refine lv_aload_n hx hb dX10_openOf_30 rfl (lv_at hl 0 rfl) ?_
        refine lv_iload_n hx hb dX10_openOf_31 rfl (lv_at hl 3 rfl) ?_
        obtain ⟨q10, hq10, hF⟩ := bd_ok hF
        refine xX10_isLid Z hP hS hq10 wd_30_21 hl.1 (Nat.le_of_ble_eq_true rfl) ⟨Nat.le_of_ble_eq_true rfl, Nat.le_of_ble_eq_true rfl⟩ dX10_openOf_32 (fun H locs hP hS => ?_)
        refine lv_if_eq (tgt := 68) hx hb dX10_openOf_35 rfl (fun hc => ?_) (fun hc => ?_)
        · have hF := (if_pos hc).symm.trans hF
          exact hb68 _ _ hF _ _ _ (lv_sub hl [0, 1, 2, 3] rfl) hP hS
        · have hF := (if_neg hc).symm.trans hF
          refine lv_aload_n hx hb dX10_openOf_38 rfl (lv_at hl 0 rfl) ?_
          refine lv_iload_n hx hb dX10_openOf_39 rfl (lv_at hl 1 rfl) ?_
          refine lv_iconst (v := (1 : Int32)) hx hb dX10_openOf_40 ic_1 ?_
          refine lv_iload_n hx hb dX10_openOf_41 rfl (lv_at hl 3 rfl) ?_
          refine lv_ishl hx hb dX10_openOf_42 ?_
          obtain ⟨q11, hq11, hF⟩ := bd_ok hF
          refine xX10_isOpen Z hP hS hq11 wd_30_17 hl.1 (Nat.le_of_ble_eq_true rfl) ⟨Nat.le_of_ble_eq_true rfl, Nat.le_of_ble_eq_true rfl⟩ dX10_openOf_43 (fun H locs hP hS => ?_)
          refine lv_if_eq (tgt := 68) hx hb dX10_openOf_46 rfl (fun hc => ?_) (fun hc => ?_)
          · have hF := (if_pos hc).symm.trans hF
            exact hb68 _ _ hF _ _ _ (lv_sub hl [0, 1, 2, 3] rfl) hP hS
          · have hF := (if_neg hc).symm.trans hF
            exact hx49 _ _ hF _ _ _ (lv_sub hl [2, 3] rfl) hP hS
  refine lv_aload_n hx hb dX10_openOf_0 rfl (lv_at hl 0 rfl) ?_
  refine lv_iload_n hx hb dX10_openOf_1 rfl (lv_at hl 1 rfl) ?_
  refine lv_iconst (v := (0 : Int32)) hx hb dX10_openOf_2 ic_0 ?_
  obtain ⟨q12, hq12, hF⟩ := bd_ok hF
  refine xX10_isOpen Z hP hS hq12 wd_30_17 hl.1 (Nat.le_of_ble_eq_true rfl) ⟨Nat.le_of_ble_eq_true rfl, Nat.le_of_ble_eq_true rfl⟩ dX10_openOf_3 (fun H locs hP hS => ?_)
  refine lv_if_eq (tgt := 20) hx hb dX10_openOf_6 rfl (fun hc => ?_) (fun hc => ?_)
  · have hF := (if_pos hc).symm.trans hF
    refine lv_iconst (v := (0 : Int32)) hx hb dX10_openOf_20 ic_0 ?_
    refine lv_istore_n (lv' := [(3, .int (0 : Int32)), (0, .ref (g.1 108)), (1, .int v1), (2, .int v2)]) hx hb dX10_openOf_21 rfl hl (Nat.le_of_ble_eq_true rfl) rfl (fun ls hl => ?_)
    exact (hL22 _ _ hb49 hb74 FU) _ _ hF _ _ _ (lv_sub hl [1, 2, 3, 0] rfl) hP hS
  · have hF := (if_neg hc).symm.trans hF
    refine lv_iload_n hx hb dX10_openOf_9 rfl (lv_at hl 2 rfl) ?_
    refine lv_iconst (v := (-1 : Int32)) hx hb dX10_openOf_10 ic_m1 ?_
    refine lv_icmp_ne (tgt := 18) hx hb dX10_openOf_11 rfl (fun hc => ?_) (fun hc => ?_)
    · have hF := (if_neg hc).symm.trans hF
      refine lv_iconst (v := (-1 : Int32)) hx hb dX10_openOf_18 ic_m1 ?_
      exact ret_IWM Z hr hlk hP hS hF dX10_openOf_19
    · have hF := (if_pos hc).symm.trans hF
      refine lv_iconst (v := (0 : Int32)) hx hb dX10_openOf_14 ic_0 ?_
      refine lv_goto (tgt := 19) hx hb dX10_openOf_15 rfl ?_
      exact ret_IWM Z hr hlk hP hS hF dX10_openOf_19
theorem xX10_openOf {p : Program} {l : Launch} {e : Env} {R : Room} {s : State} {m : MethodId} {args : Array Value} {below : List Frame} {meth : Method} {c : Code} {H : Heap} {locs : List Loc} {Q : State → Prop} {cc : ByteArray} {nL : Nat} {own : String} {g : GG} {pc index : Nat} {ls : Array Slot} {rest : List Value} {mc mm : Mem} (Z : ZZ p s m args c cc nL own g) (hP : va_P g.2.2.1 vwCl (wL g mc mm) H) (hS : va_S (AA g s.heap.size) s.heap H locs) {v1 : Int32} {v2 : Int32} {q : Int32 × Mem} (hq : F10_openOf v1 v2 mm = some q) (hlk : Cond.methodLink own index yX10_openOf ∈ wsL_law) (hsz : ls.size = nL) (hro : (rest.map fun v => v.category).sum ≤ 8) (hR : 7 + 1 ≤ R.frames ∧ 8 + (5 + 11) + 161 ≤ R.locals) (hdg : decode cc pc = .ok (.invokevirtual index, 3)) (kk : ∀ (H : Heap) (locs : List Loc), va_P g.2.2.1 vwCl (wL g mc q.2) H → va_S (AA g s.heap.size) s.heap H locs → W p l e R s m args below meth c H locs 0 0 Q (F0 m (pc + 3) ls (.int q.1 :: rest))) : W p l e R s m args below meth c H locs 0 0 Q (F0 m pc ls (.int v2 :: .int v1 :: .ref (g.1 108) :: rest)) :=
  x_VI Z hP hS (kX10_openOf l g v1 v2 mc mm q hq) (mO) (ci := 10) (by decide) rfl rfl mf_X10_openOf mv_X10_openOf hlk rfl rfl hsz hro hR hdg kk
theorem dX10_open_0 : decode cX10_open 0 = .ok (.aload_n 0, 1) := by decide +kernel
theorem dX10_open_1 : decode cX10_open 1 = .ok (.invokevirtual 236, 3) := by decide +kernel
theorem dX10_open_4 : decode cX10_open 4 = .ok (.iload_n 1, 1) := by decide +kernel
theorem dX10_open_5 : decode cX10_open 5 = .ok (.invokestatic 178, 3) := by decide +kernel
theorem dX10_open_8 : decode cX10_open 8 = .ok (.ifCond .eq 24, 3) := by decide +kernel
theorem dX10_open_11 : decode cX10_open 11 = .ok (.iload_n 2, 1) := by decide +kernel
theorem dX10_open_12 : decode cX10_open 12 = .ok (.i2l, 1) := by decide +kernel
theorem dX10_open_13 : decode cX10_open 13 = .ok (.ldc2_w 277, 3) := by decide +kernel
theorem dX10_open_16 : decode cX10_open 16 = .ok (.lconst 1, 1) := by decide +kernel
theorem dX10_open_17 : decode cX10_open 17 = .ok (.invokestatic 83, 3) := by decide +kernel
theorem dX10_open_20 : decode cX10_open 20 = .ok (.ifCond .eq 12, 3) := by decide +kernel
theorem dX10_open_23 : decode cX10_open 23 = .ok (.aload_n 0, 1) := by decide +kernel
theorem dX10_open_24 : decode cX10_open 24 = .ok (.iload_n 1, 1) := by decide +kernel
theorem dX10_open_25 : decode cX10_open 25 = .ok (.iload_n 2, 1) := by decide +kernel
theorem dX10_open_26 : decode cX10_open 26 = .ok (.invokevirtual 279, 3) := by decide +kernel
theorem dX10_open_29 : decode cX10_open 29 = .ok (.goto 5, 3) := by decide +kernel
theorem dX10_open_32 : decode cX10_open 32 = .ok (.bipush (-2), 2) := by decide +kernel
theorem dX10_open_34 : decode cX10_open 34 = .ok (.ireturn, 1) := by decide +kernel
noncomputable def F10_open_b32 (v1 : Int32) (v2 : Int32) (M : Mem) : Option (Int32 × Mem) :=
  some ((-2 : Int32), M)
noncomputable def F10_open (v1 : Int32) (v2 : Int32) (mm : Mem) : Option (Int32 × Mem) :=
  ((F10_find mm).bind (fun q5 => ((F10_isEight v1).bind (fun q6 => (if q6 = (0 : Int32) then (F10_open_b32 v1 v2) q5 else ((F10_in v2.toInt64 (-1 : Int64) (1 : Int64)).bind (fun q7 => (if q7 = (0 : Int32) then (F10_open_b32 v1 v2) q5 else ((F10_openOf v1 v2 q5).bind (fun q8 => (some (q8.1, q8.2))))))))))))
set_option maxHeartbeats 4000000 in
set_option maxRecDepth 100000 in
theorem kX10_open (l : Launch) (g : GG) (v1 : Int32) (v2 : Int32) (mc mm : Mem) (q : Int32 × Mem) (hF : F10_open v1 v2 mm = some q) : KI l yX10_open cX10_open 3 .int 8 185 g [.ref (g.1 108), .int v1, .int v2] mc mm q.1 (mc, q.2) := by
  intro sz
  refine x_start (Qc := fun z => QI g z q.1 (mc, q.2)) (by decide +kernel) (Nat.le_of_ble_eq_true rfl) ?_ sz
  intro p e s m args below meth c ls Z hr hlk hP hl
  have hx := Z.1.1
  have hb := Z.1.2.1
  have hown := Z.1.2.2.2.1
  have hts := Z.1.2.2.2.2
  have hS : va_S (AA g s.heap.size) s.heap s.heap [] := va_S.rf
  have hl : lv_has ls 3 [(0, .ref (g.1 108)), (1, .int v1), (2, .int v2)] := hl
  unfold F10_open at hF
  have hb32 : ∀  (M : Mem), F10_open_b32 v1 v2 M = some q → ∀ (H : Heap) (locs : List Loc) (ls : Array Slot), lv_has ls 3 [] → va_P g.2.2.1 vwCl (wL g mc M) H → va_S (AA g s.heap.size) s.heap H locs → W p l e { frames := 8, cells := 0, slots := 0, locals := 185 } s m args below meth c H locs 0 0 (MQ below (QI g s.heap.size q.1 (mc, q.2)) args s 0 0 (AA g s.heap.size)) (F0 m 32 ls []) := by
    intro M hF H locs ls hl hP hS
    unfold F10_open_b32 at hF
    refine lv_bipush (v := (-2 : Int32)) hx hb dX10_open_32 bp_m2 ?_
    exact ret_IWM Z hr hlk hP hS hF dX10_open_34
  refine lv_aload_n hx hb dX10_open_0 rfl (lv_at hl 0 rfl) ?_
  obtain ⟨q5, hq5, hF⟩ := bd_ok hF
  refine xX10_find Z hP hS hq5 wd_22_5 hl.1 (Nat.le_of_ble_eq_true rfl) ⟨Nat.le_of_ble_eq_true rfl, Nat.le_of_ble_eq_true rfl⟩ dX10_open_1 (fun H locs hP hS => ?_)
  refine lv_iload_n hx hb dX10_open_4 rfl (lv_at hl 1 rfl) ?_
  obtain ⟨q6, hq6, hF⟩ := bd_ok hF
  refine xX10_isEight Z hP hS hq6 wd_18_9 hl.1 (Nat.le_of_ble_eq_true rfl) ⟨Nat.le_of_ble_eq_true rfl, Nat.le_of_ble_eq_true rfl⟩ dX10_open_5 (fun H locs hP hS => ?_)
  refine lv_if_eq (tgt := 32) hx hb dX10_open_8 rfl (fun hc => ?_) (fun hc => ?_)
  · have hF := (if_pos hc).symm.trans hF
    exact hb32 _ hF _ _ _ (lv_sub hl [] rfl) hP hS
  · have hF := (if_neg hc).symm.trans hF
    refine lv_iload_n hx hb dX10_open_11 rfl (lv_at hl 2 rfl) ?_
    refine lv_i2l (v := v2.toInt64) hx hb dX10_open_12 rfl ?_
    refine lv_ldc2 (v := (-1 : Int64)) hx hb hown (hts _ wd_30_12) dX10_open_13 ?_
    refine lv_lconst (v := (1 : Int64)) hx hb dX10_open_16 lc_1 ?_
    obtain ⟨q7, hq7, hF⟩ := bd_ok hF
    refine xX10_in Z hP hS hq7 wd_13_8 hl.1 (Nat.le_of_ble_eq_true rfl) ⟨Nat.le_of_ble_eq_true rfl, Nat.le_of_ble_eq_true rfl⟩ dX10_open_17 (fun H locs hP hS => ?_)
    refine lv_if_eq (tgt := 32) hx hb dX10_open_20 rfl (fun hc => ?_) (fun hc => ?_)
    · have hF := (if_pos hc).symm.trans hF
      exact hb32 _ hF _ _ _ (lv_sub hl [] rfl) hP hS
    · have hF := (if_neg hc).symm.trans hF
      refine lv_aload_n hx hb dX10_open_23 rfl (lv_at hl 0 rfl) ?_
      refine lv_iload_n hx hb dX10_open_24 rfl (lv_at hl 1 rfl) ?_
      refine lv_iload_n hx hb dX10_open_25 rfl (lv_at hl 2 rfl) ?_
      obtain ⟨q8, hq8, hF⟩ := bd_ok hF
      refine xX10_openOf Z hP hS hq8 wd_30_13 hl.1 (Nat.le_of_ble_eq_true rfl) ⟨Nat.le_of_ble_eq_true rfl, Nat.le_of_ble_eq_true rfl⟩ dX10_open_26 (fun H locs hP hS => ?_)
      refine lv_goto (tgt := 34) hx hb dX10_open_29 rfl ?_
      exact ret_IWM Z hr hlk hP hS hF dX10_open_34
theorem xX10_open {p : Program} {l : Launch} {e : Env} {R : Room} {s : State} {m : MethodId} {args : Array Value} {below : List Frame} {meth : Method} {c : Code} {H : Heap} {locs : List Loc} {Q : State → Prop} {cc : ByteArray} {nL : Nat} {own : String} {g : GG} {pc index : Nat} {ls : Array Slot} {rest : List Value} {mc mm : Mem} (Z : ZZ p s m args c cc nL own g) (hP : va_P g.2.2.1 vwCl (wL g mc mm) H) (hS : va_S (AA g s.heap.size) s.heap H locs) {v1 : Int32} {v2 : Int32} {q : Int32 × Mem} (hq : F10_open v1 v2 mm = some q) (hlk : Cond.methodLink own index yX10_open ∈ wsL_law) (hsz : ls.size = nL) (hro : (rest.map fun v => v.category).sum ≤ 8) (hR : 8 + 1 ≤ R.frames ∧ 8 + (3 + 11) + 185 ≤ R.locals) (hdg : decode cc pc = .ok (.invokevirtual index, 3)) (kk : ∀ (H : Heap) (locs : List Loc), va_P g.2.2.1 vwCl (wL g mc q.2) H → va_S (AA g s.heap.size) s.heap H locs → W p l e R s m args below meth c H locs 0 0 Q (F0 m (pc + 3) ls (.int q.1 :: rest))) : W p l e R s m args below meth c H locs 0 0 Q (F0 m pc ls (.int v2 :: .int v1 :: .ref (g.1 108) :: rest)) :=
  x_VI Z hP hS (kX10_open l g v1 v2 mc mm q hq) (mO) (ci := 10) (by decide) rfl rfl mf_X10_open mv_X10_open hlk rfl rfl hsz hro hR hdg kk
theorem dX10_ironBy_0 : decode cX10_ironBy 0 = .ok (.iconst (-1), 1) := by decide +kernel
theorem dX10_ironBy_1 : decode cX10_ironBy 1 = .ok (.istore_n 2, 1) := by decide +kernel
theorem dX10_ironBy_2 : decode cX10_ironBy 2 = .ok (.bipush 99, 2) := by decide +kernel
theorem dX10_ironBy_4 : decode cX10_ironBy 4 = .ok (.istore_n 3, 1) := by decide +kernel
theorem dX10_ironBy_5 : decode cX10_ironBy 5 = .ok (.iconst 0, 1) := by decide +kernel
theorem dX10_ironBy_6 : decode cX10_ironBy 6 = .ok (.istore 4, 2) := by decide +kernel
theorem dX10_ironBy_8 : decode cX10_ironBy 8 = .ok (.iload 4, 2) := by decide +kernel
theorem dX10_ironBy_10 : decode cX10_ironBy 10 = .ok (.aload_n 0, 1) := by decide +kernel
theorem dX10_ironBy_11 : decode cX10_ironBy 11 = .ok (.getfield 134, 3) := by decide +kernel
theorem dX10_ironBy_14 : decode cX10_ironBy 14 = .ok (.if_icmp .ge 83, 3) := by decide +kernel
theorem dX10_ironBy_17 : decode cX10_ironBy 17 = .ok (.aload_n 0, 1) := by decide +kernel
theorem dX10_ironBy_18 : decode cX10_ironBy 18 = .ok (.getfield 31, 3) := by decide +kernel
theorem dX10_ironBy_21 : decode cX10_ironBy 21 = .ok (.bipush 8, 2) := by decide +kernel
theorem dX10_ironBy_23 : decode cX10_ironBy 23 = .ok (.iload 4, 2) := by decide +kernel
theorem dX10_ironBy_25 : decode cX10_ironBy 25 = .ok (.imul, 1) := by decide +kernel
theorem dX10_ironBy_26 : decode cX10_ironBy 26 = .ok (.iconst 2, 1) := by decide +kernel
theorem dX10_ironBy_27 : decode cX10_ironBy 27 = .ok (.iadd, 1) := by decide +kernel
theorem dX10_ironBy_28 : decode cX10_ironBy 28 = .ok (.iaload, 1) := by decide +kernel
theorem dX10_ironBy_29 : decode cX10_ironBy 29 = .ok (.istore 5, 2) := by decide +kernel
theorem dX10_ironBy_31 : decode cX10_ironBy 31 = .ok (.aload_n 0, 1) := by decide +kernel
theorem dX10_ironBy_32 : decode cX10_ironBy 32 = .ok (.getfield 31, 3) := by decide +kernel
theorem dX10_ironBy_35 : decode cX10_ironBy 35 = .ok (.bipush 8, 2) := by decide +kernel
theorem dX10_ironBy_37 : decode cX10_ironBy 37 = .ok (.iload 4, 2) := by decide +kernel
theorem dX10_ironBy_39 : decode cX10_ironBy 39 = .ok (.imul, 1) := by decide +kernel
theorem dX10_ironBy_40 : decode cX10_ironBy 40 = .ok (.iconst 2, 1) := by decide +kernel
theorem dX10_ironBy_41 : decode cX10_ironBy 41 = .ok (.iadd, 1) := by decide +kernel
theorem dX10_ironBy_42 : decode cX10_ironBy 42 = .ok (.iconst 0, 1) := by decide +kernel
theorem dX10_ironBy_43 : decode cX10_ironBy 43 = .ok (.iastore, 1) := by decide +kernel
theorem dX10_ironBy_44 : decode cX10_ironBy 44 = .ok (.aload_n 0, 1) := by decide +kernel
theorem dX10_ironBy_45 : decode cX10_ironBy 45 = .ok (.invokevirtual 233, 3) := by decide +kernel
theorem dX10_ironBy_48 : decode cX10_ironBy 48 = .ok (.aload_n 0, 1) := by decide +kernel
theorem dX10_ironBy_49 : decode cX10_ironBy 49 = .ok (.invokevirtual 253, 3) := by decide +kernel
theorem dX10_ironBy_52 : decode cX10_ironBy 52 = .ok (.invokestatic 262, 3) := by decide +kernel
theorem dX10_ironBy_55 : decode cX10_ironBy 55 = .ok (.istore 6, 2) := by decide +kernel
theorem dX10_ironBy_57 : decode cX10_ironBy 57 = .ok (.iload 6, 2) := by decide +kernel
theorem dX10_ironBy_59 : decode cX10_ironBy 59 = .ok (.iload_n 3, 1) := by decide +kernel
theorem dX10_ironBy_60 : decode cX10_ironBy 60 = .ok (.if_icmp .ge 8, 3) := by decide +kernel
theorem dX10_ironBy_63 : decode cX10_ironBy 63 = .ok (.iload 4, 2) := by decide +kernel
theorem dX10_ironBy_65 : decode cX10_ironBy 65 = .ok (.goto 4, 3) := by decide +kernel
theorem dX10_ironBy_68 : decode cX10_ironBy 68 = .ok (.iload_n 2, 1) := by decide +kernel
theorem dX10_ironBy_69 : decode cX10_ironBy 69 = .ok (.istore_n 2, 1) := by decide +kernel
theorem dX10_ironBy_70 : decode cX10_ironBy 70 = .ok (.iload 6, 2) := by decide +kernel
theorem dX10_ironBy_72 : decode cX10_ironBy 72 = .ok (.iload_n 3, 1) := by decide +kernel
theorem dX10_ironBy_73 : decode cX10_ironBy 73 = .ok (.invokestatic 282, 3) := by decide +kernel
theorem dX10_ironBy_76 : decode cX10_ironBy 76 = .ok (.istore_n 3, 1) := by decide +kernel
theorem dX10_ironBy_77 : decode cX10_ironBy 77 = .ok (.aload_n 0, 1) := by decide +kernel
theorem dX10_ironBy_78 : decode cX10_ironBy 78 = .ok (.getfield 31, 3) := by decide +kernel
theorem dX10_ironBy_81 : decode cX10_ironBy 81 = .ok (.bipush 8, 2) := by decide +kernel
theorem dX10_ironBy_83 : decode cX10_ironBy 83 = .ok (.iload 4, 2) := by decide +kernel
theorem dX10_ironBy_85 : decode cX10_ironBy 85 = .ok (.imul, 1) := by decide +kernel
theorem dX10_ironBy_86 : decode cX10_ironBy 86 = .ok (.iconst 2, 1) := by decide +kernel
theorem dX10_ironBy_87 : decode cX10_ironBy 87 = .ok (.iadd, 1) := by decide +kernel
theorem dX10_ironBy_88 : decode cX10_ironBy 88 = .ok (.iload 5, 2) := by decide +kernel
theorem dX10_ironBy_90 : decode cX10_ironBy 90 = .ok (.iastore, 1) := by decide +kernel
theorem dX10_ironBy_91 : decode cX10_ironBy 91 = .ok (.iinc 4 1, 3) := by decide +kernel
theorem dX10_ironBy_94 : decode cX10_ironBy 94 = .ok (.goto (-86), 3) := by decide +kernel
theorem dX10_ironBy_97 : decode cX10_ironBy 97 = .ok (.iload_n 2, 1) := by decide +kernel
theorem dX10_ironBy_98 : decode cX10_ironBy 98 = .ok (.iconst (-1), 1) := by decide +kernel
theorem dX10_ironBy_99 : decode cX10_ironBy 99 = .ok (.if_icmp .eq 7, 3) := by decide +kernel
theorem dX10_ironBy_102 : decode cX10_ironBy 102 = .ok (.iload_n 1, 1) := by decide +kernel
theorem dX10_ironBy_103 : decode cX10_ironBy 103 = .ok (.ifCond .ne 7, 3) := by decide +kernel
theorem dX10_ironBy_106 : decode cX10_ironBy 106 = .ok (.iload_n 2, 1) := by decide +kernel
theorem dX10_ironBy_107 : decode cX10_ironBy 107 = .ok (.goto 4, 3) := by decide +kernel
theorem dX10_ironBy_110 : decode cX10_ironBy 110 = .ok (.iload_n 3, 1) := by decide +kernel
theorem dX10_ironBy_111 : decode cX10_ironBy 111 = .ok (.ireturn, 1) := by decide +kernel
noncomputable def F10_ironBy_b106 (v1 : Int32) (a2 : Int32) (M : Mem) : Option (Int32 × Mem) :=
  some (a2, M)
noncomputable def F10_ironBy_b97 (v1 : Int32) (a2 : Int32) (a3 : Int32) (M : Mem) : Option (Int32 × Mem) :=
  (if a2 = (-1 : Int32) then (F10_ironBy_b106 v1) a2 M else (if v1 = (0 : Int32) then (F10_ironBy_b106 v1) a2 M else some (a3, M)))
noncomputable def F10_ironBy_b69 (kh : Int32 → Int32 → Int32 → Mem → Option (Int32 × Mem)) (kx97 : Int32 → Int32 → Mem → Option (Int32 × Mem)) (v1 : Int32) (a3 : Int32) (a4 : Int32) (a5 : Int32) (a6 : Int32) (s0 : Int32) (M : Mem) : Option (Int32 × Mem) :=
  ((F10_lesser a6 a3).bind (fun q9 => (ck (((8 : Int32) * a4) + (2 : Int32)) 64 (kh s0 q9 (a4 + (1 : Int32)) (mset M 8 (((8 : Int32) * a4) + (2 : Int32)).toNatClampNeg a5)))))
noncomputable def F10_ironBy_p8 (kh : Int32 → Int32 → Int32 → Mem → Option (Int32 × Mem)) (kx97 : Int32 → Int32 → Mem → Option (Int32 × Mem)) (v1 : Int32) (a2 : Int32) (a3 : Int32) (a4 : Int32) (M : Mem) : Option (Int32 × Mem) :=
  (if (M 0 9) ≤ a4 then kx97 a2 a3 M else (ck (((8 : Int32) * a4) + (2 : Int32)) 64 (ck (((8 : Int32) * a4) + (2 : Int32)) 64 (lt (mset M 8 (((8 : Int32) * a4) + (2 : Int32)).toNatClampNeg (0 : Int32)) (fun M13 => ((F10_lives M13).bind (fun q14 => ((F10_goneNow q14).bind (fun q15 => ((F10_ones q15).bind (fun q16 => (if a3 ≤ q16 then (F10_ironBy_b69 kh kx97 v1) a3 a4 (M 8 (((8 : Int32) * a4) + (2 : Int32)).toNatClampNeg) q16 a2 q14 else (F10_ironBy_b69 kh kx97 v1) a3 a4 (M 8 (((8 : Int32) * a4) + (2 : Int32)).toNatClampNeg) q16 a4 q14))))))))))))
noncomputable def F10_ironBy_h8 (kx97 : Int32 → Int32 → Mem → Option (Int32 × Mem)) (v1 : Int32) : Nat → Int32 → Int32 → Int32 → Mem → Option (Int32 × Mem)
  | 0, _, _, _, _ => none
  | n + 1, a2, a3, a4, M => F10_ironBy_p8 (F10_ironBy_h8 kx97 v1 n) kx97 v1 a2 a3 a4 M
noncomputable def F10_ironBy (v1 : Int32) (mm : Mem) : Option (Int32 × Mem) :=
  (F10_ironBy_h8 (F10_ironBy_b97 v1) v1 FU) (-1 : Int32) (99 : Int32) (0 : Int32) mm
set_option maxHeartbeats 4000000 in
set_option maxRecDepth 100000 in
theorem kX10_ironBy (l : Launch) (g : GG) (v1 : Int32) (mc mm : Mem) (q : Int32 × Mem) (hF : F10_ironBy v1 mm = some q) : KI l yX10_ironBy cX10_ironBy 7 .int 6 139 g [.ref (g.1 108), .int v1] mc mm q.1 (mc, q.2) := by
  intro sz
  refine x_start (Qc := fun z => QI g z q.1 (mc, q.2)) (by decide +kernel) (Nat.le_of_ble_eq_true rfl) ?_ sz
  intro p e s m args below meth c ls Z hr hlk hP hl
  have hx := Z.1.1
  have hb := Z.1.2.1
  have hown := Z.1.2.2.2.1
  have hts := Z.1.2.2.2.2
  have hS : va_S (AA g s.heap.size) s.heap s.heap [] := va_S.rf
  have hl : lv_has ls 7 [(0, .ref (g.1 108)), (1, .int v1)] := hl
  unfold F10_ironBy at hF
  have hb106 : ∀ (a2 : Int32) (M : Mem), F10_ironBy_b106 v1 a2 M = some q → ∀ (H : Heap) (locs : List Loc) (ls : Array Slot), lv_has ls 7 [(2, .int a2)] → va_P g.2.2.1 vwCl (wL g mc M) H → va_S (AA g s.heap.size) s.heap H locs → W p l e { frames := 6, cells := 0, slots := 0, locals := 139 } s m args below meth c H locs 0 0 (MQ below (QI g s.heap.size q.1 (mc, q.2)) args s 0 0 (AA g s.heap.size)) (F0 m 106 ls []) := by
    intro a2 M hF H locs ls hl hP hS
    unfold F10_ironBy_b106 at hF
    refine lv_iload_n hx hb dX10_ironBy_106 rfl (lv_at hl 0 rfl) ?_
    refine lv_goto (tgt := 111) hx hb dX10_ironBy_107 rfl ?_
    exact ret_IWM Z hr hlk hP hS hF dX10_ironBy_111
  have hb97 : ∀ (a2 : Int32) (a3 : Int32) (M : Mem), F10_ironBy_b97 v1 a2 a3 M = some q → ∀ (H : Heap) (locs : List Loc) (ls : Array Slot), lv_has ls 7 [(1, .int v1), (2, .int a2), (3, .int a3)] → va_P g.2.2.1 vwCl (wL g mc M) H → va_S (AA g s.heap.size) s.heap H locs → W p l e { frames := 6, cells := 0, slots := 0, locals := 139 } s m args below meth c H locs 0 0 (MQ below (QI g s.heap.size q.1 (mc, q.2)) args s 0 0 (AA g s.heap.size)) (F0 m 97 ls []) := by
    intro a2 a3 M hF H locs ls hl hP hS
    unfold F10_ironBy_b97 at hF
    refine lv_iload_n hx hb dX10_ironBy_97 rfl (lv_at hl 1 rfl) ?_
    refine lv_iconst (v := (-1 : Int32)) hx hb dX10_ironBy_98 ic_m1 ?_
    refine lv_icmp_eq (tgt := 106) hx hb dX10_ironBy_99 rfl (fun hc => ?_) (fun hc => ?_)
    · have hF := (if_pos hc).symm.trans hF
      exact hb106 _ _ hF _ _ _ (lv_sub hl [1] rfl) hP hS
    · have hF := (if_neg hc).symm.trans hF
      refine lv_iload_n hx hb dX10_ironBy_102 rfl (lv_at hl 0 rfl) ?_
      refine lv_if_ne (tgt := 110) hx hb dX10_ironBy_103 rfl (fun hc => ?_) (fun hc => ?_)
      · have hF := (if_neg hc).symm.trans hF
        refine lv_iload_n hx hb dX10_ironBy_110 rfl (lv_at hl 2 rfl) ?_
        exact ret_IWM Z hr hlk hP hS hF dX10_ironBy_111
      · have hF := (if_pos hc).symm.trans hF
        exact hb106 _ _ hF _ _ _ (lv_sub hl [1] rfl) hP hS
  have hL8 : ∀ (kx97 : Int32 → Int32 → Mem → Option (Int32 × Mem)), (∀ (a2 : Int32) (a3 : Int32) (M : Mem), kx97 a2 a3 M = some q → ∀ (H : Heap) (locs : List Loc) (ls : Array Slot), lv_has ls 7 [(1, .int v1), (2, .int a2), (3, .int a3)] → va_P g.2.2.1 vwCl (wL g mc M) H → va_S (AA g s.heap.size) s.heap H locs → W p l e { frames := 6, cells := 0, slots := 0, locals := 139 } s m args below meth c H locs 0 0 (MQ below (QI g s.heap.size q.1 (mc, q.2)) args s 0 0 (AA g s.heap.size)) (F0 m 97 ls [])) → ∀ n : Nat, ∀ (a2 : Int32) (a3 : Int32) (a4 : Int32) (M : Mem), F10_ironBy_h8 kx97 v1 n a2 a3 a4 M = some q → ∀ (H : Heap) (locs : List Loc) (ls : Array Slot), lv_has ls 7 [(0, .ref (g.1 108)), (1, .int v1), (2, .int a2), (3, .int a3), (4, .int a4)] → va_P g.2.2.1 vwCl (wL g mc M) H → va_S (AA g s.heap.size) s.heap H locs → W p l e { frames := 6, cells := 0, slots := 0, locals := 139 } s m args below meth c H locs 0 0 (MQ below (QI g s.heap.size q.1 (mc, q.2)) args s 0 0 (AA g s.heap.size)) (F0 m 8 ls []) := by
    intro kx97 hx97 n
    induction n with
    | zero => intro a2 a3 a4 M hF H locs ls hl hP hS; exact absurd hF (fun z => nomatch (show (none : Option _) = some q from z))
    | succ n ih =>
      generalize hkh : F10_ironBy_h8 kx97 v1 n = kh at ih
      have hb69 : ∀ (a3 : Int32) (a4 : Int32) (a5 : Int32) (a6 : Int32) (s0 : Int32) (M : Mem), F10_ironBy_b69 kh kx97 v1 a3 a4 a5 a6 s0 M = some q → ∀ (H : Heap) (locs : List Loc) (ls : Array Slot), lv_has ls 7 [(0, .ref (g.1 108)), (1, .int v1), (3, .int a3), (4, .int a4), (5, .int a5), (6, .int a6)] → va_P g.2.2.1 vwCl (wL g mc M) H → va_S (AA g s.heap.size) s.heap H locs → W p l e { frames := 6, cells := 0, slots := 0, locals := 139 } s m args below meth c H locs 0 0 (MQ below (QI g s.heap.size q.1 (mc, q.2)) args s 0 0 (AA g s.heap.size)) (F0 m 69 ls [.int s0]) := by
        intro a3 a4 a5 a6 s0 M hF H locs ls hl hP hS
        unfold F10_ironBy_b69 at hF
        refine lv_istore_n (lv' := [(2, .int s0), (0, .ref (g.1 108)), (1, .int v1), (3, .int a3), (4, .int a4), (5, .int a5), (6, .int a6)]) hx hb dX10_ironBy_69 rfl hl (Nat.le_of_ble_eq_true rfl) rfl (fun ls hl => ?_)
        refine lv_iload hx hb dX10_ironBy_70 (lv_at hl 6 rfl) ?_
        refine lv_iload_n hx hb dX10_ironBy_72 rfl (lv_at hl 3 rfl) ?_
        obtain ⟨q9, hq9, hF⟩ := bd_ok hF
        refine xX10_lesser Z hP hS hq9 wd_31_21 hl.1 (Nat.le_of_ble_eq_true rfl) ⟨Nat.le_of_ble_eq_true rfl, Nat.le_of_ble_eq_true rfl⟩ dX10_ironBy_73 (fun H locs hP hS => ?_)
        refine lv_istore_n (lv' := [(3, .int q9), (2, .int s0), (0, .ref (g.1 108)), (1, .int v1), (4, .int a4), (5, .int a5), (6, .int a6)]) hx hb dX10_ironBy_76 rfl hl (Nat.le_of_ble_eq_true rfl) rfl (fun ls hl => ?_)
        refine lv_aload_n hx hb dX10_ironBy_77 rfl (lv_at hl 2 rfl) ?_
        refine gf10_10 Z hP wd_6_11 dX10_ironBy_78 ?_
        refine lv_bipush (v := (8 : Int32)) hx hb dX10_ironBy_81 bp_8 ?_
        refine lv_iload hx hb dX10_ironBy_83 (lv_at hl 4 rfl) ?_
        refine lv_imul hx hb dX10_ironBy_85 ?_
        refine lv_iconst (v := (2 : Int32)) hx hb dX10_ironBy_86 ic_2 ?_
        refine lv_iadd hx hb dX10_ironBy_87 ?_
        refine lv_iload hx hb dX10_ironBy_88 (lv_at hl 5 rfl) ?_
        obtain ⟨hi10, hF⟩ := ck_ok hF
        refine rM_st Z hP hS 64 8 (by decide +kernel) hi10 dX10_ironBy_90 (fun H locs hP hS => ?_)
        refine lv_iinc (lv' := [(4, .int (a4 + (1 : Int32))), (3, .int q9), (2, .int s0), (0, .ref (g.1 108)), (1, .int v1), (5, .int a5), (6, .int a6)]) (v := (a4 + (1 : Int32))) hx hb dX10_ironBy_91 hl (k := 4) rfl (io_1 _) (Nat.le_of_ble_eq_true rfl) rfl (fun ls hl => ?_)
        refine lv_goto (tgt := 8) hx hb dX10_ironBy_94 rfl ?_
        exact ih _ _ _ _ hF _ _ _ (lv_sub hl [3, 4, 2, 1, 0] rfl) hP hS
      intro a2 a3 a4 M hF H locs ls hl hP hS
      have hF : F10_ironBy_p8 (F10_ironBy_h8 kx97 v1 n) kx97 v1 a2 a3 a4 M = some q := hF
      rw [hkh] at hF
      unfold F10_ironBy_p8 at hF
      refine lv_iload hx hb dX10_ironBy_8 (lv_at hl 4 rfl) ?_
      refine lv_aload_n hx hb dX10_ironBy_10 rfl (lv_at hl 0 rfl) ?_
      refine gf10_9 Z hP wd_15_5 dX10_ironBy_11 ?_
      refine lv_icmp_ge (tgt := 97) hx hb dX10_ironBy_14 rfl (fun hc => ?_) (fun hc => ?_)
      · have hF := (if_pos hc).symm.trans hF
        exact hx97 _ _ _ hF _ _ _ (lv_sub hl [1, 2, 3] rfl) hP hS
      · have hF := (if_neg hc).symm.trans hF
        refine lv_aload_n hx hb dX10_ironBy_17 rfl (lv_at hl 0 rfl) ?_
        refine gf10_10 Z hP wd_6_11 dX10_ironBy_18 ?_
        refine lv_bipush (v := (8 : Int32)) hx hb dX10_ironBy_21 bp_8 ?_
        refine lv_iload hx hb dX10_ironBy_23 (lv_at hl 4 rfl) ?_
        refine lv_imul hx hb dX10_ironBy_25 ?_
        refine lv_iconst (v := (2 : Int32)) hx hb dX10_ironBy_26 ic_2 ?_
        refine lv_iadd hx hb dX10_ironBy_27 ?_
        obtain ⟨hi11, hF⟩ := ck_ok hF
        refine rM_ld Z hP 64 8 (by decide +kernel) hi11 dX10_ironBy_28 ?_
        refine lv_istore (lv' := [(5, .int (M 8 (((8 : Int32) * a4) + (2 : Int32)).toNatClampNeg)), (0, .ref (g.1 108)), (1, .int v1), (2, .int a2), (3, .int a3), (4, .int a4)]) hx hb dX10_ironBy_29 hl (Nat.le_of_ble_eq_true rfl) rfl (fun ls hl => ?_)
        refine lv_aload_n hx hb dX10_ironBy_31 rfl (lv_at hl 1 rfl) ?_
        refine gf10_10 Z hP wd_6_11 dX10_ironBy_32 ?_
        refine lv_bipush (v := (8 : Int32)) hx hb dX10_ironBy_35 bp_8 ?_
        refine lv_iload hx hb dX10_ironBy_37 (lv_at hl 5 rfl) ?_
        refine lv_imul hx hb dX10_ironBy_39 ?_
        refine lv_iconst (v := (2 : Int32)) hx hb dX10_ironBy_40 ic_2 ?_
        refine lv_iadd hx hb dX10_ironBy_41 ?_
        refine lv_iconst (v := (0 : Int32)) hx hb dX10_ironBy_42 ic_0 ?_
        obtain ⟨hi12, hF⟩ := ck_ok hF
        refine rM_st Z hP hS 64 8 (by decide +kernel) hi12 dX10_ironBy_43 (fun H locs hP hS => ?_)
        refine lv_aload_n hx hb dX10_ironBy_44 rfl (lv_at hl 1 rfl) ?_
        obtain ⟨M13, eM13, hF⟩ := lt_ok hF
        have hP : va_P g.2.2.1 vwCl (wL g mc M13) H := by rw [eM13]; exact hP
        obtain ⟨q14, hq14, hF⟩ := bd_ok hF
        refine xX10_lives Z hP hS hq14 wd_22_9 hl.1 (Nat.le_of_ble_eq_true rfl) ⟨Nat.le_of_ble_eq_true rfl, Nat.le_of_ble_eq_true rfl⟩ dX10_ironBy_45 (fun H locs hP hS => ?_)
        refine lv_aload_n hx hb dX10_ironBy_48 rfl (lv_at hl 1 rfl) ?_
        obtain ⟨q15, hq15, hF⟩ := bd_ok hF
        refine xX10_goneNow Z hP hS hq15 wd_26_18 hl.1 (Nat.le_of_ble_eq_true rfl) ⟨Nat.le_of_ble_eq_true rfl, Nat.le_of_ble_eq_true rfl⟩ dX10_ironBy_49 (fun H locs hP hS => ?_)
        obtain ⟨q16, hq16, hF⟩ := bd_ok hF
        refine xX10_ones Z hP hS hq16 wd_29_10 hl.1 (Nat.le_of_ble_eq_true rfl) ⟨Nat.le_of_ble_eq_true rfl, Nat.le_of_ble_eq_true rfl⟩ dX10_ironBy_52 (fun H locs hP hS => ?_)
        refine lv_istore (lv' := [(6, .int q16), (5, .int (M 8 (((8 : Int32) * a4) + (2 : Int32)).toNatClampNeg)), (0, .ref (g.1 108)), (1, .int v1), (2, .int a2), (3, .int a3), (4, .int a4)]) hx hb dX10_ironBy_55 hl (Nat.le_of_ble_eq_true rfl) rfl (fun ls hl => ?_)
        refine lv_iload hx hb dX10_ironBy_57 (lv_at hl 0 rfl) ?_
        refine lv_iload_n hx hb dX10_ironBy_59 rfl (lv_at hl 5 rfl) ?_
        refine lv_icmp_ge (tgt := 68) hx hb dX10_ironBy_60 rfl (fun hc => ?_) (fun hc => ?_)
        · have hF := (if_pos hc).symm.trans hF
          refine lv_iload_n hx hb dX10_ironBy_68 rfl (lv_at hl 4 rfl) ?_
          exact hb69 _ _ _ _ _ _ hF _ _ _ (lv_sub hl [2, 3, 5, 6, 1, 0] rfl) hP hS
        · have hF := (if_neg hc).symm.trans hF
          refine lv_iload hx hb dX10_ironBy_63 (lv_at hl 6 rfl) ?_
          refine lv_goto (tgt := 69) hx hb dX10_ironBy_65 rfl ?_
          exact hb69 _ _ _ _ _ _ hF _ _ _ (lv_sub hl [2, 3, 5, 6, 1, 0] rfl) hP hS
  refine lv_iconst (v := (-1 : Int32)) hx hb dX10_ironBy_0 ic_m1 ?_
  refine lv_istore_n (lv' := [(2, .int (-1 : Int32)), (0, .ref (g.1 108)), (1, .int v1)]) hx hb dX10_ironBy_1 rfl hl (Nat.le_of_ble_eq_true rfl) rfl (fun ls hl => ?_)
  refine lv_bipush (v := (99 : Int32)) hx hb dX10_ironBy_2 bp_99 ?_
  refine lv_istore_n (lv' := [(3, .int (99 : Int32)), (2, .int (-1 : Int32)), (0, .ref (g.1 108)), (1, .int v1)]) hx hb dX10_ironBy_4 rfl hl (Nat.le_of_ble_eq_true rfl) rfl (fun ls hl => ?_)
  refine lv_iconst (v := (0 : Int32)) hx hb dX10_ironBy_5 ic_0 ?_
  refine lv_istore (lv' := [(4, .int (0 : Int32)), (3, .int (99 : Int32)), (2, .int (-1 : Int32)), (0, .ref (g.1 108)), (1, .int v1)]) hx hb dX10_ironBy_6 hl (Nat.le_of_ble_eq_true rfl) rfl (fun ls hl => ?_)
  exact (hL8 _ hb97 FU) _ _ _ _ hF _ _ _ (lv_sub hl [3, 4, 2, 1, 0] rfl) hP hS
theorem xX10_ironBy {p : Program} {l : Launch} {e : Env} {R : Room} {s : State} {m : MethodId} {args : Array Value} {below : List Frame} {meth : Method} {c : Code} {H : Heap} {locs : List Loc} {Q : State → Prop} {cc : ByteArray} {nL : Nat} {own : String} {g : GG} {pc index : Nat} {ls : Array Slot} {rest : List Value} {mc mm : Mem} (Z : ZZ p s m args c cc nL own g) (hP : va_P g.2.2.1 vwCl (wL g mc mm) H) (hS : va_S (AA g s.heap.size) s.heap H locs) {v1 : Int32} {q : Int32 × Mem} (hq : F10_ironBy v1 mm = some q) (hlk : Cond.methodLink own index yX10_ironBy ∈ wsL_law) (hsz : ls.size = nL) (hro : (rest.map fun v => v.category).sum ≤ 8) (hR : 6 + 1 ≤ R.frames ∧ 8 + (7 + 11) + 139 ≤ R.locals) (hdg : decode cc pc = .ok (.invokevirtual index, 3)) (kk : ∀ (H : Heap) (locs : List Loc), va_P g.2.2.1 vwCl (wL g mc q.2) H → va_S (AA g s.heap.size) s.heap H locs → W p l e R s m args below meth c H locs 0 0 Q (F0 m (pc + 3) ls (.int q.1 :: rest))) : W p l e R s m args below meth c H locs 0 0 Q (F0 m pc ls (.int v1 :: .ref (g.1 108) :: rest)) :=
  x_VI Z hP hS (kX10_ironBy l g v1 mc mm q hq) (mO) (ci := 10) (by decide) rfl rfl mf_X10_ironBy mv_X10_ironBy hlk rfl rfl hsz hro hR hdg kk
theorem dX10_iron_0 : decode cX10_iron 0 = .ok (.aload_n 0, 1) := by decide +kernel
theorem dX10_iron_1 : decode cX10_iron 1 = .ok (.invokevirtual 236, 3) := by decide +kernel
theorem dX10_iron_4 : decode cX10_iron 4 = .ok (.iload_n 1, 1) := by decide +kernel
theorem dX10_iron_5 : decode cX10_iron 5 = .ok (.invokestatic 111, 3) := by decide +kernel
theorem dX10_iron_8 : decode cX10_iron 8 = .ok (.ifCond .eq 11, 3) := by decide +kernel
theorem dX10_iron_11 : decode cX10_iron 11 = .ok (.aload_n 0, 1) := by decide +kernel
theorem dX10_iron_12 : decode cX10_iron 12 = .ok (.iload_n 1, 1) := by decide +kernel
theorem dX10_iron_13 : decode cX10_iron 13 = .ok (.invokevirtual 285, 3) := by decide +kernel
theorem dX10_iron_16 : decode cX10_iron 16 = .ok (.goto 5, 3) := by decide +kernel
theorem dX10_iron_19 : decode cX10_iron 19 = .ok (.bipush (-2), 2) := by decide +kernel
theorem dX10_iron_21 : decode cX10_iron 21 = .ok (.ireturn, 1) := by decide +kernel
noncomputable def F10_iron (v1 : Int32) (mm : Mem) : Option (Int32 × Mem) :=
  ((F10_find mm).bind (fun q4 => ((F10_isTwo v1).bind (fun q5 => (if q5 = (0 : Int32) then some ((-2 : Int32), q4) else ((F10_ironBy v1 q4).bind (fun q6 => (some (q6.1, q6.2)))))))))
set_option maxHeartbeats 4000000 in
set_option maxRecDepth 100000 in
theorem kX10_iron (l : Launch) (g : GG) (v1 : Int32) (mc mm : Mem) (q : Int32 × Mem) (hF : F10_iron v1 mm = some q) : KI l yX10_iron cX10_iron 2 .int 7 165 g [.ref (g.1 108), .int v1] mc mm q.1 (mc, q.2) := by
  intro sz
  refine x_start (Qc := fun z => QI g z q.1 (mc, q.2)) (by decide +kernel) (Nat.le_of_ble_eq_true rfl) ?_ sz
  intro p e s m args below meth c ls Z hr hlk hP hl
  have hx := Z.1.1
  have hb := Z.1.2.1
  have hown := Z.1.2.2.2.1
  have hts := Z.1.2.2.2.2
  have hS : va_S (AA g s.heap.size) s.heap s.heap [] := va_S.rf
  have hl : lv_has ls 2 [(0, .ref (g.1 108)), (1, .int v1)] := hl
  unfold F10_iron at hF
  refine lv_aload_n hx hb dX10_iron_0 rfl (lv_at hl 0 rfl) ?_
  obtain ⟨q4, hq4, hF⟩ := bd_ok hF
  refine xX10_find Z hP hS hq4 wd_22_5 hl.1 (Nat.le_of_ble_eq_true rfl) ⟨Nat.le_of_ble_eq_true rfl, Nat.le_of_ble_eq_true rfl⟩ dX10_iron_1 (fun H locs hP hS => ?_)
  refine lv_iload_n hx hb dX10_iron_4 rfl (lv_at hl 1 rfl) ?_
  obtain ⟨q5, hq5, hF⟩ := bd_ok hF
  refine xX10_isTwo Z hP hS hq5 wd_13_5 hl.1 (Nat.le_of_ble_eq_true rfl) ⟨Nat.le_of_ble_eq_true rfl, Nat.le_of_ble_eq_true rfl⟩ dX10_iron_5 (fun H locs hP hS => ?_)
  refine lv_if_eq (tgt := 19) hx hb dX10_iron_8 rfl (fun hc => ?_) (fun hc => ?_)
  · have hF := (if_pos hc).symm.trans hF
    refine lv_bipush (v := (-2 : Int32)) hx hb dX10_iron_19 bp_m2 ?_
    exact ret_IWM Z hr hlk hP hS hF dX10_iron_21
  · have hF := (if_neg hc).symm.trans hF
    refine lv_aload_n hx hb dX10_iron_11 rfl (lv_at hl 0 rfl) ?_
    refine lv_iload_n hx hb dX10_iron_12 rfl (lv_at hl 1 rfl) ?_
    obtain ⟨q6, hq6, hF⟩ := bd_ok hF
    refine xX10_ironBy Z hP hS hq6 wd_31_17 hl.1 (Nat.le_of_ble_eq_true rfl) ⟨Nat.le_of_ble_eq_true rfl, Nat.le_of_ble_eq_true rfl⟩ dX10_iron_13 (fun H locs hP hS => ?_)
    refine lv_goto (tgt := 21) hx hb dX10_iron_16 rfl ?_
    exact ret_IWM Z hr hlk hP hS hF dX10_iron_21
theorem xX10_iron {p : Program} {l : Launch} {e : Env} {R : Room} {s : State} {m : MethodId} {args : Array Value} {below : List Frame} {meth : Method} {c : Code} {H : Heap} {locs : List Loc} {Q : State → Prop} {cc : ByteArray} {nL : Nat} {own : String} {g : GG} {pc index : Nat} {ls : Array Slot} {rest : List Value} {mc mm : Mem} (Z : ZZ p s m args c cc nL own g) (hP : va_P g.2.2.1 vwCl (wL g mc mm) H) (hS : va_S (AA g s.heap.size) s.heap H locs) {v1 : Int32} {q : Int32 × Mem} (hq : F10_iron v1 mm = some q) (hlk : Cond.methodLink own index yX10_iron ∈ wsL_law) (hsz : ls.size = nL) (hro : (rest.map fun v => v.category).sum ≤ 8) (hR : 7 + 1 ≤ R.frames ∧ 8 + (2 + 11) + 165 ≤ R.locals) (hdg : decode cc pc = .ok (.invokevirtual index, 3)) (kk : ∀ (H : Heap) (locs : List Loc), va_P g.2.2.1 vwCl (wL g mc q.2) H → va_S (AA g s.heap.size) s.heap H locs → W p l e R s m args below meth c H locs 0 0 Q (F0 m (pc + 3) ls (.int q.1 :: rest))) : W p l e R s m args below meth c H locs 0 0 Q (F0 m pc ls (.int v1 :: .ref (g.1 108) :: rest)) :=
  x_VI Z hP hS (kX10_iron l g v1 mc mm q hq) (mO) (ci := 10) (by decide) rfl rfl mf_X10_iron mv_X10_iron hlk rfl rfl hsz hro hR hdg kk

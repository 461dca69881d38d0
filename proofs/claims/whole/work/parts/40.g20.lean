theorem dX10_readsWells_0 : decode cX10_readsWells 0 = .ok (.aload_n 0, 1) := by decide +kernel
theorem dX10_readsWells_1 : decode cX10_readsWells 1 = .ok (.iconst 0, 1) := by decide +kernel
theorem dX10_readsWells_2 : decode cX10_readsWells 2 = .ok (.putfield 120, 3) := by decide +kernel
theorem dX10_readsWells_5 : decode cX10_readsWells 5 = .ok (.aload_n 0, 1) := by decide +kernel
theorem dX10_readsWells_6 : decode cX10_readsWells 6 = .ok (.getfield 25, 3) := by decide +kernel
theorem dX10_readsWells_9 : decode cX10_readsWells 9 = .ok (.iconst 0, 1) := by decide +kernel
theorem dX10_readsWells_10 : decode cX10_readsWells 10 = .ok (.iaload, 1) := by decide +kernel
theorem dX10_readsWells_11 : decode cX10_readsWells 11 = .ok (.istore_n 1, 1) := by decide +kernel
theorem dX10_readsWells_12 : decode cX10_readsWells 12 = .ok (.iconst 0, 1) := by decide +kernel
theorem dX10_readsWells_13 : decode cX10_readsWells 13 = .ok (.istore_n 2, 1) := by decide +kernel
theorem dX10_readsWells_14 : decode cX10_readsWells 14 = .ok (.iload_n 2, 1) := by decide +kernel
theorem dX10_readsWells_15 : decode cX10_readsWells 15 = .ok (.iload_n 1, 1) := by decide +kernel
theorem dX10_readsWells_16 : decode cX10_readsWells 16 = .ok (.if_icmp .ge 77, 3) := by decide +kernel
theorem dX10_readsWells_19 : decode cX10_readsWells 19 = .ok (.iload_n 2, 1) := by decide +kernel
theorem dX10_readsWells_20 : decode cX10_readsWells 20 = .ok (.iconst 3, 1) := by decide +kernel
theorem dX10_readsWells_21 : decode cX10_readsWells 21 = .ok (.irem, 1) := by decide +kernel
theorem dX10_readsWells_22 : decode cX10_readsWells 22 = .ok (.istore_n 3, 1) := by decide +kernel
theorem dX10_readsWells_23 : decode cX10_readsWells 23 = .ok (.iload_n 3, 1) := by decide +kernel
theorem dX10_readsWells_24 : decode cX10_readsWells 24 = .ok (.aload_n 0, 1) := by decide +kernel
theorem dX10_readsWells_25 : decode cX10_readsWells 25 = .ok (.getfield 22, 3) := by decide +kernel
theorem dX10_readsWells_28 : decode cX10_readsWells 28 = .ok (.iload_n 2, 1) := by decide +kernel
theorem dX10_readsWells_29 : decode cX10_readsWells 29 = .ok (.iaload, 1) := by decide +kernel
theorem dX10_readsWells_30 : decode cX10_readsWells 30 = .ok (.invokestatic 123, 3) := by decide +kernel
theorem dX10_readsWells_33 : decode cX10_readsWells 33 = .ok (.istore 4, 2) := by decide +kernel
theorem dX10_readsWells_35 : decode cX10_readsWells 35 = .ok (.iload 4, 2) := by decide +kernel
theorem dX10_readsWells_37 : decode cX10_readsWells 37 = .ok (.bipush (-9), 2) := by decide +kernel
theorem dX10_readsWells_39 : decode cX10_readsWells 39 = .ok (.if_icmp .ne 10, 3) := by decide +kernel
theorem dX10_readsWells_42 : decode cX10_readsWells 42 = .ok (.aload_n 0, 1) := by decide +kernel
theorem dX10_readsWells_43 : decode cX10_readsWells 43 = .ok (.iconst 0, 1) := by decide +kernel
theorem dX10_readsWells_44 : decode cX10_readsWells 44 = .ok (.putfield 120, 3) := by decide +kernel
theorem dX10_readsWells_47 : decode cX10_readsWells 47 = .ok (.iload_n 2, 1) := by decide +kernel
theorem dX10_readsWells_48 : decode cX10_readsWells 48 = .ok (.ireturn, 1) := by decide +kernel
theorem dX10_readsWells_49 : decode cX10_readsWells 49 = .ok (.iload_n 3, 1) := by decide +kernel
theorem dX10_readsWells_50 : decode cX10_readsWells 50 = .ok (.iconst 2, 1) := by decide +kernel
theorem dX10_readsWells_51 : decode cX10_readsWells 51 = .ok (.if_icmp .ge 17, 3) := by decide +kernel
theorem dX10_readsWells_54 : decode cX10_readsWells 54 = .ok (.aload_n 0, 1) := by decide +kernel
theorem dX10_readsWells_55 : decode cX10_readsWells 55 = .ok (.getfield 28, 3) := by decide +kernel
theorem dX10_readsWells_58 : decode cX10_readsWells 58 = .ok (.iconst 2, 1) := by decide +kernel
theorem dX10_readsWells_59 : decode cX10_readsWells 59 = .ok (.iload_n 2, 1) := by decide +kernel
theorem dX10_readsWells_60 : decode cX10_readsWells 60 = .ok (.iconst 3, 1) := by decide +kernel
theorem dX10_readsWells_61 : decode cX10_readsWells 61 = .ok (.idiv, 1) := by decide +kernel
theorem dX10_readsWells_62 : decode cX10_readsWells 62 = .ok (.imul, 1) := by decide +kernel
theorem dX10_readsWells_63 : decode cX10_readsWells 63 = .ok (.iload_n 3, 1) := by decide +kernel
theorem dX10_readsWells_64 : decode cX10_readsWells 64 = .ok (.iadd, 1) := by decide +kernel
theorem dX10_readsWells_65 : decode cX10_readsWells 65 = .ok (.iload 4, 2) := by decide +kernel
theorem dX10_readsWells_67 : decode cX10_readsWells 67 = .ok (.iastore, 1) := by decide +kernel
theorem dX10_readsWells_68 : decode cX10_readsWells 68 = .ok (.aload_n 0, 1) := by decide +kernel
theorem dX10_readsWells_69 : decode cX10_readsWells 69 = .ok (.dup, 1) := by decide +kernel
theorem dX10_readsWells_70 : decode cX10_readsWells 70 = .ok (.getfield 120, 3) := by decide +kernel
theorem dX10_readsWells_73 : decode cX10_readsWells 73 = .ok (.iload_n 3, 1) := by decide +kernel
theorem dX10_readsWells_74 : decode cX10_readsWells 74 = .ok (.iconst 1, 1) := by decide +kernel
theorem dX10_readsWells_75 : decode cX10_readsWells 75 = .ok (.if_icmp .ne 7, 3) := by decide +kernel
theorem dX10_readsWells_78 : decode cX10_readsWells 78 = .ok (.iconst 1, 1) := by decide +kernel
theorem dX10_readsWells_79 : decode cX10_readsWells 79 = .ok (.goto 4, 3) := by decide +kernel
theorem dX10_readsWells_82 : decode cX10_readsWells 82 = .ok (.iconst 0, 1) := by decide +kernel
theorem dX10_readsWells_83 : decode cX10_readsWells 83 = .ok (.iadd, 1) := by decide +kernel
theorem dX10_readsWells_84 : decode cX10_readsWells 84 = .ok (.putfield 120, 3) := by decide +kernel
theorem dX10_readsWells_87 : decode cX10_readsWells 87 = .ok (.iinc 2 1, 3) := by decide +kernel
theorem dX10_readsWells_90 : decode cX10_readsWells 90 = .ok (.goto (-76), 3) := by decide +kernel
theorem dX10_readsWells_93 : decode cX10_readsWells 93 = .ok (.iload_n 1, 1) := by decide +kernel
theorem dX10_readsWells_94 : decode cX10_readsWells 94 = .ok (.ifCond .le 17, 3) := by decide +kernel
theorem dX10_readsWells_97 : decode cX10_readsWells 97 = .ok (.iload_n 1, 1) := by decide +kernel
theorem dX10_readsWells_98 : decode cX10_readsWells 98 = .ok (.iconst 3, 1) := by decide +kernel
theorem dX10_readsWells_99 : decode cX10_readsWells 99 = .ok (.irem, 1) := by decide +kernel
theorem dX10_readsWells_100 : decode cX10_readsWells 100 = .ok (.iconst 2, 1) := by decide +kernel
theorem dX10_readsWells_101 : decode cX10_readsWells 101 = .ok (.if_icmp .eq 10, 3) := by decide +kernel
theorem dX10_readsWells_104 : decode cX10_readsWells 104 = .ok (.aload_n 0, 1) := by decide +kernel
theorem dX10_readsWells_105 : decode cX10_readsWells 105 = .ok (.iconst 0, 1) := by decide +kernel
theorem dX10_readsWells_106 : decode cX10_readsWells 106 = .ok (.putfield 120, 3) := by decide +kernel
theorem dX10_readsWells_109 : decode cX10_readsWells 109 = .ok (.iload_n 1, 1) := by decide +kernel
theorem dX10_readsWells_110 : decode cX10_readsWells 110 = .ok (.ireturn, 1) := by decide +kernel
theorem dX10_readsWells_111 : decode cX10_readsWells 111 = .ok (.iconst (-1), 1) := by decide +kernel
theorem dX10_readsWells_112 : decode cX10_readsWells 112 = .ok (.ireturn, 1) := by decide +kernel
noncomputable def F10_readsWells_b93 (a1 : Int32) (M : Mem) : Option (Int32 × Mem) :=
  (if a1 ≤ (0 : Int32) then some ((-1 : Int32), M) else (if (jrem a1 (3 : Int32)) = (2 : Int32) then some ((-1 : Int32), M) else some (a1, (mset M 0 7 (0 : Int32)))))
noncomputable def F10_readsWells_b42 (a2 : Int32) (M : Mem) : Option (Int32 × Mem) :=
  some (a2, (mset M 0 7 (0 : Int32)))
noncomputable def F10_readsWells_b83 (kh : Int32 → Int32 → Mem → Option (Int32 × Mem)) (kx42 : Int32 → Mem → Option (Int32 × Mem)) (kx93 : Int32 → Mem → Option (Int32 × Mem)) (a1 : Int32) (a2 : Int32) (s1 : Int32) (s2 : Int32) (M : Mem) : Option (Int32 × Mem) :=
  kh a1 (a2 + (1 : Int32)) (mset M 0 7 (s1 + s2))
noncomputable def F10_readsWells_b68 (kh : Int32 → Int32 → Mem → Option (Int32 × Mem)) (kx42 : Int32 → Mem → Option (Int32 × Mem)) (kx93 : Int32 → Mem → Option (Int32 × Mem)) (a1 : Int32) (a2 : Int32) (a3 : Int32) (M : Mem) : Option (Int32 × Mem) :=
  (if a3 = (1 : Int32) then (F10_readsWells_b83 kh kx42 kx93) a1 a2 (M 0 7) (1 : Int32) M else (F10_readsWells_b83 kh kx42 kx93) a1 a2 (M 0 7) (0 : Int32) M)
noncomputable def F10_readsWells_p14 (kh : Int32 → Int32 → Mem → Option (Int32 × Mem)) (kx42 : Int32 → Mem → Option (Int32 × Mem)) (kx93 : Int32 → Mem → Option (Int32 × Mem)) (a1 : Int32) (a2 : Int32) (M : Mem) : Option (Int32 × Mem) :=
  (if a1 ≤ a2 then kx93 a1 M else (ck a2 128 ((F10_wellOf (jrem a2 (3 : Int32)) (M 5 a2.toNatClampNeg)).bind (fun q6 => (if q6 = (-9 : Int32) then kx42 a2 M else (if (2 : Int32) ≤ (jrem a2 (3 : Int32)) then (F10_readsWells_b68 kh kx42 kx93) a1 a2 (jrem a2 (3 : Int32)) M else (ck (((2 : Int32) * (a2 / (3 : Int32))) + (jrem a2 (3 : Int32))) 16 ((F10_readsWells_b68 kh kx42 kx93) a1 a2 (jrem a2 (3 : Int32)) (mset M 7 (((2 : Int32) * (a2 / (3 : Int32))) + (jrem a2 (3 : Int32))).toNatClampNeg q6)))))))))
noncomputable def F10_readsWells_h14 (kx42 : Int32 → Mem → Option (Int32 × Mem)) (kx93 : Int32 → Mem → Option (Int32 × Mem)) : Nat → Int32 → Int32 → Mem → Option (Int32 × Mem)
  | 0, _, _, _ => none
  | n + 1, a1, a2, M => F10_readsWells_p14 (F10_readsWells_h14 kx42 kx93 n) kx42 kx93 a1 a2 M
noncomputable def F10_readsWells (mm : Mem) : Option (Int32 × Mem) :=
  (lt (mset mm 0 7 (0 : Int32)) (fun M8 => ((F10_readsWells_h14 F10_readsWells_b42 F10_readsWells_b93 FU) (M8 6 (0 : Int32).toNatClampNeg) (0 : Int32) M8)))
set_option maxHeartbeats 4000000 in
set_option maxRecDepth 100000 in
theorem kX10_readsWells (l : Launch) (g : GG) (mc mm : Mem) (q : Int32 × Mem) (hF : F10_readsWells mm = some q) : KI l yX10_readsWells cX10_readsWells 5 .int 2 46 g [.ref (g.1 108)] mc mm q.1 (mc, q.2) := by
  intro sz
  refine x_start (Qc := fun z => QI g z q.1 (mc, q.2)) (by decide +kernel) (Nat.le_of_ble_eq_true rfl) ?_ sz
  intro p e s m args below meth c ls Z hr hlk hP hl
  have hx := Z.1.1
  have hb := Z.1.2.1
  have hown := Z.1.2.2.2.1
  have hts := Z.1.2.2.2.2
  have hS : va_S (AA g s.heap.size) s.heap s.heap [] := va_S.rf
  have hl : lv_has ls 5 [(0, .ref (g.1 108))] := hl
  unfold F10_readsWells at hF
  have hb93 : ∀ (a1 : Int32) (M : Mem), F10_readsWells_b93 a1 M = some q → ∀ (H : Heap) (locs : List Loc) (ls : Array Slot), lv_has ls 5 [(0, .ref (g.1 108)), (1, .int a1)] → va_P g.2.2.1 vwCl (wL g mc M) H → va_S (AA g s.heap.size) s.heap H locs → W p l e { frames := 2, cells := 0, slots := 0, locals := 46 } s m args below meth c H locs 0 0 (MQ below (QI g s.heap.size q.1 (mc, q.2)) args s 0 0 (AA g s.heap.size)) (F0 m 93 ls []) := by
    intro a1 M hF H locs ls hl hP hS
    unfold F10_readsWells_b93 at hF
    refine lv_iload_n hx hb dX10_readsWells_93 rfl (lv_at hl 1 rfl) ?_
    refine lv_if_le (tgt := 111) hx hb dX10_readsWells_94 rfl (fun hc => ?_) (fun hc => ?_)
    · have hF := (if_pos hc).symm.trans hF
      refine lv_iconst (v := (-1 : Int32)) hx hb dX10_readsWells_111 ic_m1 ?_
      exact ret_IWM Z hr hlk hP hS hF dX10_readsWells_112
    · have hF := (if_neg hc).symm.trans hF
      refine lv_iload_n hx hb dX10_readsWells_97 rfl (lv_at hl 1 rfl) ?_
      refine lv_iconst (v := (3 : Int32)) hx hb dX10_readsWells_98 ic_3 ?_
      refine lv_irem hx hb dX10_readsWells_99 (by decide) ?_
      refine lv_iconst (v := (2 : Int32)) hx hb dX10_readsWells_100 ic_2 ?_
      refine lv_icmp_eq (tgt := 111) hx hb dX10_readsWells_101 rfl (fun hc => ?_) (fun hc => ?_)
      · have hF := (if_pos hc).symm.trans hF
        refine lv_iconst (v := (-1 : Int32)) hx hb dX10_readsWells_111 ic_m1 ?_
        exact ret_IWM Z hr hlk hP hS hF dX10_readsWells_112
      · have hF := (if_neg hc).symm.trans hF
        refine lv_aload_n hx hb dX10_readsWells_104 rfl (lv_at hl 0 rfl) ?_
        refine lv_iconst (v := (0 : Int32)) hx hb dX10_readsWells_105 ic_0 ?_
        refine pf10_7 Z hP hS wd_14_19 dX10_readsWells_106 (fun H locs hP hS => ?_)
        refine lv_iload_n hx hb dX10_readsWells_109 rfl (lv_at hl 1 rfl) ?_
        exact ret_IWM Z hr hlk hP hS hF dX10_readsWells_110
  have hb42 : ∀ (a2 : Int32) (M : Mem), F10_readsWells_b42 a2 M = some q → ∀ (H : Heap) (locs : List Loc) (ls : Array Slot), lv_has ls 5 [(0, .ref (g.1 108)), (2, .int a2)] → va_P g.2.2.1 vwCl (wL g mc M) H → va_S (AA g s.heap.size) s.heap H locs → W p l e { frames := 2, cells := 0, slots := 0, locals := 46 } s m args below meth c H locs 0 0 (MQ below (QI g s.heap.size q.1 (mc, q.2)) args s 0 0 (AA g s.heap.size)) (F0 m 42 ls []) := by
    intro a2 M hF H locs ls hl hP hS
    unfold F10_readsWells_b42 at hF
    refine lv_aload_n hx hb dX10_readsWells_42 rfl (lv_at hl 0 rfl) ?_
    refine lv_iconst (v := (0 : Int32)) hx hb dX10_readsWells_43 ic_0 ?_
    refine pf10_7 Z hP hS wd_14_19 dX10_readsWells_44 (fun H locs hP hS => ?_)
    refine lv_iload_n hx hb dX10_readsWells_47 rfl (lv_at hl 1 rfl) ?_
    exact ret_IWM Z hr hlk hP hS hF dX10_readsWells_48
  have hL14 : ∀ (kx42 : Int32 → Mem → Option (Int32 × Mem)) (kx93 : Int32 → Mem → Option (Int32 × Mem)), (∀ (a2 : Int32) (M : Mem), kx42 a2 M = some q → ∀ (H : Heap) (locs : List Loc) (ls : Array Slot), lv_has ls 5 [(0, .ref (g.1 108)), (2, .int a2)] → va_P g.2.2.1 vwCl (wL g mc M) H → va_S (AA g s.heap.size) s.heap H locs → W p l e { frames := 2, cells := 0, slots := 0, locals := 46 } s m args below meth c H locs 0 0 (MQ below (QI g s.heap.size q.1 (mc, q.2)) args s 0 0 (AA g s.heap.size)) (F0 m 42 ls [])) → (∀ (a1 : Int32) (M : Mem), kx93 a1 M = some q → ∀ (H : Heap) (locs : List Loc) (ls : Array Slot), lv_has ls 5 [(0, .ref (g.1 108)), (1, .int a1)] → va_P g.2.2.1 vwCl (wL g mc M) H → va_S (AA g s.heap.size) s.heap H locs → W p l e { frames := 2, cells := 0, slots := 0, locals := 46 } s m args below meth c H locs 0 0 (MQ below (QI g s.heap.size q.1 (mc, q.2)) args s 0 0 (AA g s.heap.size)) (F0 m 93 ls [])) → ∀ n : Nat, ∀ (a1 : Int32) (a2 : Int32) (M : Mem), F10_readsWells_h14 kx42 kx93 n a1 a2 M = some q → ∀ (H : Heap) (locs : List Loc) (ls : Array Slot), lv_has ls 5 [(0, .ref (g.1 108)), (1, .int a1), (2, .int a2)] → va_P g.2.2.1 vwCl (wL g mc M) H → va_S (AA g s.heap.size) s.heap H locs → W p l e { frames := 2, cells := 0, slots := 0, locals := 46 } s m args below meth c H locs 0 0 (MQ below (QI g s.heap.size q.1 (mc, q.2)) args s 0 0 (AA g s.heap.size)) (F0 m 14 ls []) := by
    intro kx42 kx93 hx42 hx93 n
    induction n with
    | zero => intro a1 a2 M hF H locs ls hl hP hS; exact absurd hF (fun z => nomatch (show (none : Option _) = some q from z))
    | succ n ih =>
      generalize hkh : F10_readsWells_h14 kx42 kx93 n = kh at ih
      have hb83 : ∀ (a1 : Int32) (a2 : Int32) (s1 : Int32) (s2 : Int32) (M : Mem), F10_readsWells_b83 kh kx42 kx93 a1 a2 s1 s2 M = some q → ∀ (H : Heap) (locs : List Loc) (ls : Array Slot), lv_has ls 5 [(0, .ref (g.1 108)), (1, .int a1), (2, .int a2)] → va_P g.2.2.1 vwCl (wL g mc M) H → va_S (AA g s.heap.size) s.heap H locs → W p l e { frames := 2, cells := 0, slots := 0, locals := 46 } s m args below meth c H locs 0 0 (MQ below (QI g s.heap.size q.1 (mc, q.2)) args s 0 0 (AA g s.heap.size)) (F0 m 83 ls [.int s2, .int s1, .ref (g.1 108)]) := by
        intro a1 a2 s1 s2 M hF H locs ls hl hP hS
        unfold F10_readsWells_b83 at hF
        refine lv_iadd hx hb dX10_readsWells_83 ?_
        refine pf10_7 Z hP hS wd_14_19 dX10_readsWells_84 (fun H locs hP hS => ?_)
        refine lv_iinc (lv' := [(2, .int (a2 + (1 : Int32))), (0, .ref (g.1 108)), (1, .int a1)]) (v := (a2 + (1 : Int32))) hx hb dX10_readsWells_87 hl (k := 2) rfl (io_1 _) (Nat.le_of_ble_eq_true rfl) rfl (fun ls hl => ?_)
        refine lv_goto (tgt := 14) hx hb dX10_readsWells_90 rfl ?_
        exact ih _ _ _ hF _ _ _ (lv_sub hl [1, 2, 0] rfl) hP hS
      have hb68 : ∀ (a1 : Int32) (a2 : Int32) (a3 : Int32) (M : Mem), F10_readsWells_b68 kh kx42 kx93 a1 a2 a3 M = some q → ∀ (H : Heap) (locs : List Loc) (ls : Array Slot), lv_has ls 5 [(0, .ref (g.1 108)), (1, .int a1), (2, .int a2), (3, .int a3)] → va_P g.2.2.1 vwCl (wL g mc M) H → va_S (AA g s.heap.size) s.heap H locs → W p l e { frames := 2, cells := 0, slots := 0, locals := 46 } s m args below meth c H locs 0 0 (MQ below (QI g s.heap.size q.1 (mc, q.2)) args s 0 0 (AA g s.heap.size)) (F0 m 68 ls []) := by
        intro a1 a2 a3 M hF H locs ls hl hP hS
        unfold F10_readsWells_b68 at hF
        refine lv_aload_n hx hb dX10_readsWells_68 rfl (lv_at hl 0 rfl) ?_
        refine lv_dup hx hb dX10_readsWells_69 rfl ?_
        refine gf10_7 Z hP wd_14_19 dX10_readsWells_70 ?_
        refine lv_iload_n hx hb dX10_readsWells_73 rfl (lv_at hl 3 rfl) ?_
        refine lv_iconst (v := (1 : Int32)) hx hb dX10_readsWells_74 ic_1 ?_
        refine lv_icmp_ne (tgt := 82) hx hb dX10_readsWells_75 rfl (fun hc => ?_) (fun hc => ?_)
        · have hF := (if_neg hc).symm.trans hF
          refine lv_iconst (v := (0 : Int32)) hx hb dX10_readsWells_82 ic_0 ?_
          exact hb83 _ _ _ _ _ hF _ _ _ (lv_sub hl [0, 1, 2] rfl) hP hS
        · have hF := (if_pos hc).symm.trans hF
          refine lv_iconst (v := (1 : Int32)) hx hb dX10_readsWells_78 ic_1 ?_
          refine lv_goto (tgt := 83) hx hb dX10_readsWells_79 rfl ?_
          exact hb83 _ _ _ _ _ hF _ _ _ (lv_sub hl [0, 1, 2] rfl) hP hS
      intro a1 a2 M hF H locs ls hl hP hS
      have hF : F10_readsWells_p14 (F10_readsWells_h14 kx42 kx93 n) kx42 kx93 a1 a2 M = some q := hF
      rw [hkh] at hF
      unfold F10_readsWells_p14 at hF
      refine lv_iload_n hx hb dX10_readsWells_14 rfl (lv_at hl 2 rfl) ?_
      refine lv_iload_n hx hb dX10_readsWells_15 rfl (lv_at hl 1 rfl) ?_
      refine lv_icmp_ge (tgt := 93) hx hb dX10_readsWells_16 rfl (fun hc => ?_) (fun hc => ?_)
      · have hF := (if_pos hc).symm.trans hF
        exact hx93 _ _ hF _ _ _ (lv_sub hl [0, 1] rfl) hP hS
      · have hF := (if_neg hc).symm.trans hF
        refine lv_iload_n hx hb dX10_readsWells_19 rfl (lv_at hl 2 rfl) ?_
        refine lv_iconst (v := (3 : Int32)) hx hb dX10_readsWells_20 ic_3 ?_
        refine lv_irem hx hb dX10_readsWells_21 (by decide) ?_
        refine lv_istore_n (lv' := [(3, .int (jrem a2 (3 : Int32))), (0, .ref (g.1 108)), (1, .int a1), (2, .int a2)]) hx hb dX10_readsWells_22 rfl hl (Nat.le_of_ble_eq_true rfl) rfl (fun ls hl => ?_)
        refine lv_iload_n hx hb dX10_readsWells_23 rfl (lv_at hl 0 rfl) ?_
        refine lv_aload_n hx hb dX10_readsWells_24 rfl (lv_at hl 1 rfl) ?_
        refine gf10_5 Z hP wd_6_8 dX10_readsWells_25 ?_
        refine lv_iload_n hx hb dX10_readsWells_28 rfl (lv_at hl 3 rfl) ?_
        obtain ⟨hi5, hF⟩ := ck_ok hF
        refine rM_ld Z hP 128 5 (by decide +kernel) hi5 dX10_readsWells_29 ?_
        obtain ⟨q6, hq6, hF⟩ := bd_ok hF
        refine xX10_wellOf Z hP hS hq6 wd_14_20 hl.1 (Nat.le_of_ble_eq_true rfl) ⟨Nat.le_of_ble_eq_true rfl, Nat.le_of_ble_eq_true rfl⟩ dX10_readsWells_30 (fun H locs hP hS => ?_)
        refine lv_istore (lv' := [(4, .int q6), (3, .int (jrem a2 (3 : Int32))), (0, .ref (g.1 108)), (1, .int a1), (2, .int a2)]) hx hb dX10_readsWells_33 hl (Nat.le_of_ble_eq_true rfl) rfl (fun ls hl => ?_)
        refine lv_iload hx hb dX10_readsWells_35 (lv_at hl 0 rfl) ?_
        refine lv_bipush (v := (-9 : Int32)) hx hb dX10_readsWells_37 bp_m9 ?_
        refine lv_icmp_ne (tgt := 49) hx hb dX10_readsWells_39 rfl (fun hc => ?_) (fun hc => ?_)
        · have hF := (if_neg hc).symm.trans hF
          refine lv_iload_n hx hb dX10_readsWells_49 rfl (lv_at hl 1 rfl) ?_
          refine lv_iconst (v := (2 : Int32)) hx hb dX10_readsWells_50 ic_2 ?_
          refine lv_icmp_ge (tgt := 68) hx hb dX10_readsWells_51 rfl (fun hc => ?_) (fun hc => ?_)
          · have hF := (if_pos hc).symm.trans hF
            exact hb68 _ _ _ _ hF _ _ _ (lv_sub hl [2, 3, 4, 1] rfl) hP hS
          · have hF := (if_neg hc).symm.trans hF
            refine lv_aload_n hx hb dX10_readsWells_54 rfl (lv_at hl 2 rfl) ?_
            refine gf10_8 Z hP wd_6_10 dX10_readsWells_55 ?_
            refine lv_iconst (v := (2 : Int32)) hx hb dX10_readsWells_58 ic_2 ?_
            refine lv_iload_n hx hb dX10_readsWells_59 rfl (lv_at hl 4 rfl) ?_
            refine lv_iconst (v := (3 : Int32)) hx hb dX10_readsWells_60 ic_3 ?_
            refine lv_idiv hx hb dX10_readsWells_61 (by decide) ?_
            refine lv_imul hx hb dX10_readsWells_62 ?_
            refine lv_iload_n hx hb dX10_readsWells_63 rfl (lv_at hl 1 rfl) ?_
            refine lv_iadd hx hb dX10_readsWells_64 ?_
            refine lv_iload hx hb dX10_readsWells_65 (lv_at hl 0 rfl) ?_
            obtain ⟨hi7, hF⟩ := ck_ok hF
            refine rM_st Z hP hS 16 7 (by decide +kernel) hi7 dX10_readsWells_67 (fun H locs hP hS => ?_)
            exact hb68 _ _ _ _ hF _ _ _ (lv_sub hl [2, 3, 4, 1] rfl) hP hS
        · have hF := (if_pos hc).symm.trans hF
          exact hx42 _ _ hF _ _ _ (lv_sub hl [2, 4] rfl) hP hS
  refine lv_aload_n hx hb dX10_readsWells_0 rfl (lv_at hl 0 rfl) ?_
  refine lv_iconst (v := (0 : Int32)) hx hb dX10_readsWells_1 ic_0 ?_
  refine pf10_7 Z hP hS wd_14_19 dX10_readsWells_2 (fun H locs hP hS => ?_)
  refine lv_aload_n hx hb dX10_readsWells_5 rfl (lv_at hl 0 rfl) ?_
  refine gf10_6 Z hP wd_6_9 dX10_readsWells_6 ?_
  refine lv_iconst (v := (0 : Int32)) hx hb dX10_readsWells_9 ic_0 ?_
  obtain ⟨M8, eM8, hF⟩ := lt_ok hF
  have hP : va_P g.2.2.1 vwCl (wL g mc M8) H := by rw [eM8]; exact hP
  refine rM_ld Z hP 2 6 (by decide +kernel) (inl (by decide)) dX10_readsWells_10 ?_
  refine lv_istore_n (lv' := [(1, .int (M8 6 (0 : Int32).toNatClampNeg)), (0, .ref (g.1 108))]) hx hb dX10_readsWells_11 rfl hl (Nat.le_of_ble_eq_true rfl) rfl (fun ls hl => ?_)
  refine lv_iconst (v := (0 : Int32)) hx hb dX10_readsWells_12 ic_0 ?_
  refine lv_istore_n (lv' := [(2, .int (0 : Int32)), (1, .int (M8 6 (0 : Int32).toNatClampNeg)), (0, .ref (g.1 108))]) hx hb dX10_readsWells_13 rfl hl (Nat.le_of_ble_eq_true rfl) rfl (fun ls hl => ?_)
  exact (hL14 _ _ hb42 hb93 FU) _ _ _ hF _ _ _ (lv_sub hl [2, 1, 0] rfl) hP hS
theorem xX10_readsWells {p : Program} {l : Launch} {e : Env} {R : Room} {s : State} {m : MethodId} {args : Array Value} {below : List Frame} {meth : Method} {c : Code} {H : Heap} {locs : List Loc} {Q : State → Prop} {cc : ByteArray} {nL : Nat} {own : String} {g : GG} {pc index : Nat} {ls : Array Slot} {rest : List Value} {mc mm : Mem} (Z : ZZ p s m args c cc nL own g) (hP : va_P g.2.2.1 vwCl (wL g mc mm) H) (hS : va_S (AA g s.heap.size) s.heap H locs) {q : Int32 × Mem} (hq : F10_readsWells mm = some q) (hlk : Cond.methodLink own index yX10_readsWells ∈ wsL_law) (hsz : ls.size = nL) (hro : (rest.map fun v => v.category).sum ≤ 8) (hR : 2 + 1 ≤ R.frames ∧ 8 + (5 + 11) + 46 ≤ R.locals) (hdg : decode cc pc = .ok (.invokevirtual index, 3)) (kk : ∀ (H : Heap) (locs : List Loc), va_P g.2.2.1 vwCl (wL g mc q.2) H → va_S (AA g s.heap.size) s.heap H locs → W p l e R s m args below meth c H locs 0 0 Q (F0 m (pc + 3) ls (.int q.1 :: rest))) : W p l e R s m args below meth c H locs 0 0 Q (F0 m pc ls (.ref (g.1 108) :: rest)) :=
  x_VI Z hP hS (kX10_readsWells l g mc mm q hq) (mO) (ci := 10) (by decide) rfl rfl mf_X10_readsWells mv_X10_readsWells hlk rfl rfl hsz hro hR hdg kk
theorem dX10_sayingOf_0 : decode cX10_sayingOf 0 = .ok (.iload_n 0, 1) := by decide +kernel
theorem dX10_sayingOf_1 : decode cX10_sayingOf 1 = .ok (.tableswitch 98 0 2 #[27, 51, 75], 27) := by decide +kernel
theorem dX10_sayingOf_28 : decode cX10_sayingOf 28 = .ok (.iload_n 1, 1) := by decide +kernel
theorem dX10_sayingOf_29 : decode cX10_sayingOf 29 = .ok (.i2l, 1) := by decide +kernel
theorem dX10_sayingOf_30 : decode cX10_sayingOf 30 = .ok (.ldc2_w 126, 3) := by decide +kernel
theorem dX10_sayingOf_33 : decode cX10_sayingOf 33 = .ok (.ldc2_w 128, 3) := by decide +kernel
theorem dX10_sayingOf_36 : decode cX10_sayingOf 36 = .ok (.invokestatic 83, 3) := by decide +kernel
theorem dX10_sayingOf_39 : decode cX10_sayingOf 39 = .ok (.ifCond .eq 10, 3) := by decide +kernel
theorem dX10_sayingOf_42 : decode cX10_sayingOf 42 = .ok (.iload_n 1, 1) := by decide +kernel
theorem dX10_sayingOf_43 : decode cX10_sayingOf 43 = .ok (.bipush 97, 2) := by decide +kernel
theorem dX10_sayingOf_45 : decode cX10_sayingOf 45 = .ok (.isub, 1) := by decide +kernel
theorem dX10_sayingOf_46 : decode cX10_sayingOf 46 = .ok (.goto 5, 3) := by decide +kernel
theorem dX10_sayingOf_49 : decode cX10_sayingOf 49 = .ok (.bipush (-9), 2) := by decide +kernel
theorem dX10_sayingOf_51 : decode cX10_sayingOf 51 = .ok (.ireturn, 1) := by decide +kernel
theorem dX10_sayingOf_52 : decode cX10_sayingOf 52 = .ok (.iload_n 1, 1) := by decide +kernel
theorem dX10_sayingOf_53 : decode cX10_sayingOf 53 = .ok (.i2l, 1) := by decide +kernel
theorem dX10_sayingOf_54 : decode cX10_sayingOf 54 = .ok (.ldc2_w 116, 3) := by decide +kernel
theorem dX10_sayingOf_57 : decode cX10_sayingOf 57 = .ok (.ldc2_w 130, 3) := by decide +kernel
theorem dX10_sayingOf_60 : decode cX10_sayingOf 60 = .ok (.invokestatic 83, 3) := by decide +kernel
theorem dX10_sayingOf_63 : decode cX10_sayingOf 63 = .ok (.ifCond .eq 10, 3) := by decide +kernel
theorem dX10_sayingOf_66 : decode cX10_sayingOf 66 = .ok (.iload_n 1, 1) := by decide +kernel
theorem dX10_sayingOf_67 : decode cX10_sayingOf 67 = .ok (.bipush 48, 2) := by decide +kernel
theorem dX10_sayingOf_69 : decode cX10_sayingOf 69 = .ok (.isub, 1) := by decide +kernel
theorem dX10_sayingOf_70 : decode cX10_sayingOf 70 = .ok (.goto 5, 3) := by decide +kernel
theorem dX10_sayingOf_73 : decode cX10_sayingOf 73 = .ok (.bipush (-9), 2) := by decide +kernel
theorem dX10_sayingOf_75 : decode cX10_sayingOf 75 = .ok (.ireturn, 1) := by decide +kernel
theorem dX10_sayingOf_76 : decode cX10_sayingOf 76 = .ok (.iload_n 1, 1) := by decide +kernel
theorem dX10_sayingOf_77 : decode cX10_sayingOf 77 = .ok (.bipush 105, 2) := by decide +kernel
theorem dX10_sayingOf_79 : decode cX10_sayingOf 79 = .ok (.if_icmp .ne 7, 3) := by decide +kernel
theorem dX10_sayingOf_82 : decode cX10_sayingOf 82 = .ok (.iconst 0, 1) := by decide +kernel
theorem dX10_sayingOf_83 : decode cX10_sayingOf 83 = .ok (.goto 15, 3) := by decide +kernel
theorem dX10_sayingOf_86 : decode cX10_sayingOf 86 = .ok (.iload_n 1, 1) := by decide +kernel
theorem dX10_sayingOf_87 : decode cX10_sayingOf 87 = .ok (.bipush 119, 2) := by decide +kernel
theorem dX10_sayingOf_89 : decode cX10_sayingOf 89 = .ok (.if_icmp .ne 7, 3) := by decide +kernel
theorem dX10_sayingOf_92 : decode cX10_sayingOf 92 = .ok (.iconst 1, 1) := by decide +kernel
theorem dX10_sayingOf_93 : decode cX10_sayingOf 93 = .ok (.goto 5, 3) := by decide +kernel
theorem dX10_sayingOf_96 : decode cX10_sayingOf 96 = .ok (.bipush (-9), 2) := by decide +kernel
theorem dX10_sayingOf_98 : decode cX10_sayingOf 98 = .ok (.ireturn, 1) := by decide +kernel
theorem dX10_sayingOf_99 : decode cX10_sayingOf 99 = .ok (.iload_n 0, 1) := by decide +kernel
theorem dX10_sayingOf_100 : decode cX10_sayingOf 100 = .ok (.bipush 7, 2) := by decide +kernel
theorem dX10_sayingOf_102 : decode cX10_sayingOf 102 = .ok (.if_icmp .ge 24, 3) := by decide +kernel
theorem dX10_sayingOf_105 : decode cX10_sayingOf 105 = .ok (.iload_n 1, 1) := by decide +kernel
theorem dX10_sayingOf_106 : decode cX10_sayingOf 106 = .ok (.i2l, 1) := by decide +kernel
theorem dX10_sayingOf_107 : decode cX10_sayingOf 107 = .ok (.ldc2_w 126, 3) := by decide +kernel
theorem dX10_sayingOf_110 : decode cX10_sayingOf 110 = .ok (.ldc2_w 132, 3) := by decide +kernel
theorem dX10_sayingOf_113 : decode cX10_sayingOf 113 = .ok (.invokestatic 83, 3) := by decide +kernel
theorem dX10_sayingOf_116 : decode cX10_sayingOf 116 = .ok (.ifCond .eq 10, 3) := by decide +kernel
theorem dX10_sayingOf_119 : decode cX10_sayingOf 119 = .ok (.iload_n 1, 1) := by decide +kernel
theorem dX10_sayingOf_120 : decode cX10_sayingOf 120 = .ok (.bipush 97, 2) := by decide +kernel
theorem dX10_sayingOf_122 : decode cX10_sayingOf 122 = .ok (.isub, 1) := by decide +kernel
theorem dX10_sayingOf_123 : decode cX10_sayingOf 123 = .ok (.goto 5, 3) := by decide +kernel
theorem dX10_sayingOf_126 : decode cX10_sayingOf 126 = .ok (.bipush (-9), 2) := by decide +kernel
theorem dX10_sayingOf_128 : decode cX10_sayingOf 128 = .ok (.ireturn, 1) := by decide +kernel
noncomputable def F10_sayingOf_b126 (v0 : Int32) (v1 : Int32) : Option (Int32) :=
  some (-9 : Int32)
noncomputable def F10_sayingOf (v0 : Int32) (v1 : Int32) : Option (Int32) :=
  (if v0 = (0 : Int32) then ((F10_in v1.toInt64 (97 : Int64) (120 : Int64)).bind (fun q5 => (if q5 = (0 : Int32) then some (-9 : Int32) else some (v1 - (97 : Int32))))) else (if v0 = (1 : Int32) then ((F10_in v1.toInt64 (48 : Int64) (55 : Int64)).bind (fun q7 => (if q7 = (0 : Int32) then some (-9 : Int32) else some (v1 - (48 : Int32))))) else (if v0 = (2 : Int32) then (if v1 = (105 : Int32) then some (0 : Int32) else (if v1 = (119 : Int32) then some (1 : Int32) else some (-9 : Int32))) else (if (7 : Int32) ≤ v0 then (F10_sayingOf_b126 v0 v1) else ((F10_in v1.toInt64 (97 : Int64) (104 : Int64)).bind (fun q9 => (if q9 = (0 : Int32) then (F10_sayingOf_b126 v0 v1) else some (v1 - (97 : Int32)))))))))
set_option maxHeartbeats 4000000 in
set_option maxRecDepth 100000 in
theorem kX10_sayingOf (l : Launch) (g : GG) (v0 : Int32) (v1 : Int32) (mc mm : Mem) (q : Int32) (hF : F10_sayingOf v0 v1 = some q) : KI l yX10_sayingOf cX10_sayingOf 2 .int 1 25 g [.int v0, .int v1] mc mm q (mc, mm) := by
  intro sz
  refine x_start (Qc := fun z => QI g z q (mc, mm)) (by decide +kernel) (Nat.le_of_ble_eq_true rfl) ?_ sz
  intro p e s m args below meth c ls Z hr hlk hP hl
  have hx := Z.1.1
  have hb := Z.1.2.1
  have hown := Z.1.2.2.2.1
  have hts := Z.1.2.2.2.2
  have hS : va_S (AA g s.heap.size) s.heap s.heap [] := va_S.rf
  have hl : lv_has ls 2 [(0, .int v0), (1, .int v1)] := hl
  unfold F10_sayingOf at hF
  have hb126 : F10_sayingOf_b126 v0 v1 = some q → ∀ (H : Heap) (locs : List Loc) (ls : Array Slot), lv_has ls 2 [] → va_P g.2.2.1 vwCl (wL g mc mm) H → va_S (AA g s.heap.size) s.heap H locs → W p l e { frames := 1, cells := 0, slots := 0, locals := 25 } s m args below meth c H locs 0 0 (MQ below (QI g s.heap.size q (mc, mm)) args s 0 0 (AA g s.heap.size)) (F0 m 126 ls []) := by
    intro hF H locs ls hl hP hS
    unfold F10_sayingOf_b126 at hF
    refine lv_bipush (v := (-9 : Int32)) hx hb dX10_sayingOf_126 bp_m9 ?_
    exact ret_I Z hr hlk hP hS hF dX10_sayingOf_128
  refine lv_iload_n hx hb dX10_sayingOf_0 rfl (lv_at hl 0 rfl) ?_
  by_cases hc4 : v0 = (0 : Int32)
  · have hF := (if_pos hc4).symm.trans hF
    refine lv_tableIn (off := 27) (tgt := 28) hx hb dX10_sayingOf_1 (by rw [hc4]; decide) (by rw [hc4]; decide) (by rw [hc4]; rfl) rfl ?_
    refine lv_iload_n hx hb dX10_sayingOf_28 rfl (lv_at hl 1 rfl) ?_
    refine lv_i2l (v := v1.toInt64) hx hb dX10_sayingOf_29 rfl ?_
    refine lv_ldc2 (v := (97 : Int64)) hx hb hown (hts _ wd_15_9) dX10_sayingOf_30 ?_
    refine lv_ldc2 (v := (120 : Int64)) hx hb hown (hts _ wd_15_10) dX10_sayingOf_33 ?_
    obtain ⟨q5, hq5, hF⟩ := bd_ok hF
    refine xX10_in Z hP hS hq5 wd_13_8 hl.1 (Nat.le_of_ble_eq_true rfl) ⟨Nat.le_of_ble_eq_true rfl, Nat.le_of_ble_eq_true rfl⟩ dX10_sayingOf_36 (fun H locs hP hS => ?_)
    refine lv_if_eq (tgt := 49) hx hb dX10_sayingOf_39 rfl (fun hc => ?_) (fun hc => ?_)
    · have hF := (if_pos hc).symm.trans hF
      refine lv_bipush (v := (-9 : Int32)) hx hb dX10_sayingOf_49 bp_m9 ?_
      exact ret_I Z hr hlk hP hS hF dX10_sayingOf_51
    · have hF := (if_neg hc).symm.trans hF
      refine lv_iload_n hx hb dX10_sayingOf_42 rfl (lv_at hl 1 rfl) ?_
      refine lv_bipush (v := (97 : Int32)) hx hb dX10_sayingOf_43 bp_97 ?_
      refine lv_isub hx hb dX10_sayingOf_45 ?_
      refine lv_goto (tgt := 51) hx hb dX10_sayingOf_46 rfl ?_
      exact ret_I Z hr hlk hP hS hF dX10_sayingOf_51
  have hF := (if_neg hc4).symm.trans hF
  by_cases hc6 : v0 = (1 : Int32)
  · have hF := (if_pos hc6).symm.trans hF
    refine lv_tableIn (off := 51) (tgt := 52) hx hb dX10_sayingOf_1 (by rw [hc6]; decide) (by rw [hc6]; decide) (by rw [hc6]; rfl) rfl ?_
    refine lv_iload_n hx hb dX10_sayingOf_52 rfl (lv_at hl 1 rfl) ?_
    refine lv_i2l (v := v1.toInt64) hx hb dX10_sayingOf_53 rfl ?_
    refine lv_ldc2 (v := (48 : Int64)) hx hb hown (hts _ wd_14_23) dX10_sayingOf_54 ?_
    refine lv_ldc2 (v := (55 : Int64)) hx hb hown (hts _ wd_15_11) dX10_sayingOf_57 ?_
    obtain ⟨q7, hq7, hF⟩ := bd_ok hF
    refine xX10_in Z hP hS hq7 wd_13_8 hl.1 (Nat.le_of_ble_eq_true rfl) ⟨Nat.le_of_ble_eq_true rfl, Nat.le_of_ble_eq_true rfl⟩ dX10_sayingOf_60 (fun H locs hP hS => ?_)
    refine lv_if_eq (tgt := 73) hx hb dX10_sayingOf_63 rfl (fun hc => ?_) (fun hc => ?_)
    · have hF := (if_pos hc).symm.trans hF
      refine lv_bipush (v := (-9 : Int32)) hx hb dX10_sayingOf_73 bp_m9 ?_
      exact ret_I Z hr hlk hP hS hF dX10_sayingOf_75
    · have hF := (if_neg hc).symm.trans hF
      refine lv_iload_n hx hb dX10_sayingOf_66 rfl (lv_at hl 1 rfl) ?_
      refine lv_bipush (v := (48 : Int32)) hx hb dX10_sayingOf_67 bp_48 ?_
      refine lv_isub hx hb dX10_sayingOf_69 ?_
      refine lv_goto (tgt := 75) hx hb dX10_sayingOf_70 rfl ?_
      exact ret_I Z hr hlk hP hS hF dX10_sayingOf_75
  have hF := (if_neg hc6).symm.trans hF
  by_cases hc8 : v0 = (2 : Int32)
  · have hF := (if_pos hc8).symm.trans hF
    refine lv_tableIn (off := 75) (tgt := 76) hx hb dX10_sayingOf_1 (by rw [hc8]; decide) (by rw [hc8]; decide) (by rw [hc8]; rfl) rfl ?_
    refine lv_iload_n hx hb dX10_sayingOf_76 rfl (lv_at hl 1 rfl) ?_
    refine lv_bipush (v := (105 : Int32)) hx hb dX10_sayingOf_77 bp_105 ?_
    refine lv_icmp_ne (tgt := 86) hx hb dX10_sayingOf_79 rfl (fun hc => ?_) (fun hc => ?_)
    · have hF := (if_neg hc).symm.trans hF
      refine lv_iload_n hx hb dX10_sayingOf_86 rfl (lv_at hl 1 rfl) ?_
      refine lv_bipush (v := (119 : Int32)) hx hb dX10_sayingOf_87 bp_119 ?_
      refine lv_icmp_ne (tgt := 96) hx hb dX10_sayingOf_89 rfl (fun hc => ?_) (fun hc => ?_)
      · have hF := (if_neg hc).symm.trans hF
        refine lv_bipush (v := (-9 : Int32)) hx hb dX10_sayingOf_96 bp_m9 ?_
        exact ret_I Z hr hlk hP hS hF dX10_sayingOf_98
      · have hF := (if_pos hc).symm.trans hF
        refine lv_iconst (v := (1 : Int32)) hx hb dX10_sayingOf_92 ic_1 ?_
        refine lv_goto (tgt := 98) hx hb dX10_sayingOf_93 rfl ?_
        exact ret_I Z hr hlk hP hS hF dX10_sayingOf_98
    · have hF := (if_pos hc).symm.trans hF
      refine lv_iconst (v := (0 : Int32)) hx hb dX10_sayingOf_82 ic_0 ?_
      refine lv_goto (tgt := 98) hx hb dX10_sayingOf_83 rfl ?_
      exact ret_I Z hr hlk hP hS hF dX10_sayingOf_98
  have hF := (if_neg hc8).symm.trans hF
  refine lv_tableOut (tgt := 99) hx hb dX10_sayingOf_1 (sw_3 hc4 hc6 hc8) rfl ?_
  refine lv_iload_n hx hb dX10_sayingOf_99 rfl (lv_at hl 0 rfl) ?_
  refine lv_bipush (v := (7 : Int32)) hx hb dX10_sayingOf_100 bp_7 ?_
  refine lv_icmp_ge (tgt := 126) hx hb dX10_sayingOf_102 rfl (fun hc => ?_) (fun hc => ?_)
  · have hF := (if_pos hc).symm.trans hF
    exact hb126  hF _ _ _ (lv_sub hl [] rfl) hP hS
  · have hF := (if_neg hc).symm.trans hF
    refine lv_iload_n hx hb dX10_sayingOf_105 rfl (lv_at hl 1 rfl) ?_
    refine lv_i2l (v := v1.toInt64) hx hb dX10_sayingOf_106 rfl ?_
    refine lv_ldc2 (v := (97 : Int64)) hx hb hown (hts _ wd_15_9) dX10_sayingOf_107 ?_
    refine lv_ldc2 (v := (104 : Int64)) hx hb hown (hts _ wd_15_12) dX10_sayingOf_110 ?_
    obtain ⟨q9, hq9, hF⟩ := bd_ok hF
    refine xX10_in Z hP hS hq9 wd_13_8 hl.1 (Nat.le_of_ble_eq_true rfl) ⟨Nat.le_of_ble_eq_true rfl, Nat.le_of_ble_eq_true rfl⟩ dX10_sayingOf_113 (fun H locs hP hS => ?_)
    refine lv_if_eq (tgt := 126) hx hb dX10_sayingOf_116 rfl (fun hc => ?_) (fun hc => ?_)
    · have hF := (if_pos hc).symm.trans hF
      exact hb126  hF _ _ _ (lv_sub hl [] rfl) hP hS
    · have hF := (if_neg hc).symm.trans hF
      refine lv_iload_n hx hb dX10_sayingOf_119 rfl (lv_at hl 1 rfl) ?_
      refine lv_bipush (v := (97 : Int32)) hx hb dX10_sayingOf_120 bp_97 ?_
      refine lv_isub hx hb dX10_sayingOf_122 ?_
      refine lv_goto (tgt := 128) hx hb dX10_sayingOf_123 rfl ?_
      exact ret_I Z hr hlk hP hS hF dX10_sayingOf_128
theorem xX10_sayingOf {p : Program} {l : Launch} {e : Env} {R : Room} {s : State} {m : MethodId} {args : Array Value} {below : List Frame} {meth : Method} {c : Code} {H : Heap} {locs : List Loc} {Q : State → Prop} {cc : ByteArray} {nL : Nat} {own : String} {g : GG} {pc index : Nat} {ls : Array Slot} {rest : List Value} {mc mm : Mem} (Z : ZZ p s m args c cc nL own g) (hP : va_P g.2.2.1 vwCl (wL g mc mm) H) (hS : va_S (AA g s.heap.size) s.heap H locs) {v0 : Int32} {v1 : Int32} {q : Int32} (hq : F10_sayingOf v0 v1 = some q) (hlk : Cond.methodLink own index yX10_sayingOf ∈ wsL_law) (hsz : ls.size = nL) (hro : (rest.map fun v => v.category).sum ≤ 8) (hR : 1 + 1 ≤ R.frames ∧ 8 + (2 + 11) + 25 ≤ R.locals) (hdg : decode cc pc = .ok (.invokestatic index, 3)) (kk : ∀ (H : Heap) (locs : List Loc), va_P g.2.2.1 vwCl (wL g mc mm) H → va_S (AA g s.heap.size) s.heap H locs → W p l e R s m args below meth c H locs 0 0 Q (F0 m (pc + 3) ls (.int q :: rest))) : W p l e R s m args below meth c H locs 0 0 Q (F0 m pc ls (.int v1 :: .int v0 :: rest)) :=
  x_SI Z hP hS (kX10_sayingOf l g v0 v1 mc mm q hq) mf_X10_sayingOf wd_15_7 hlk rfl rfl hsz hro hR hdg kk
theorem dX10_readsSayings_0 : decode cX10_readsSayings 0 = .ok (.aload_n 0, 1) := by decide +kernel
theorem dX10_readsSayings_1 : decode cX10_readsSayings 1 = .ok (.iconst 0, 1) := by decide +kernel
theorem dX10_readsSayings_2 : decode cX10_readsSayings 2 = .ok (.putfield 134, 3) := by decide +kernel
theorem dX10_readsSayings_5 : decode cX10_readsSayings 5 = .ok (.aload_n 0, 1) := by decide +kernel
theorem dX10_readsSayings_6 : decode cX10_readsSayings 6 = .ok (.getfield 25, 3) := by decide +kernel
theorem dX10_readsSayings_9 : decode cX10_readsSayings 9 = .ok (.iconst 1, 1) := by decide +kernel
theorem dX10_readsSayings_10 : decode cX10_readsSayings 10 = .ok (.iaload, 1) := by decide +kernel
theorem dX10_readsSayings_11 : decode cX10_readsSayings 11 = .ok (.istore_n 1, 1) := by decide +kernel
theorem dX10_readsSayings_12 : decode cX10_readsSayings 12 = .ok (.iconst 0, 1) := by decide +kernel
theorem dX10_readsSayings_13 : decode cX10_readsSayings 13 = .ok (.istore_n 2, 1) := by decide +kernel
theorem dX10_readsSayings_14 : decode cX10_readsSayings 14 = .ok (.iconst 0, 1) := by decide +kernel
theorem dX10_readsSayings_15 : decode cX10_readsSayings 15 = .ok (.istore_n 3, 1) := by decide +kernel
theorem dX10_readsSayings_16 : decode cX10_readsSayings 16 = .ok (.iload_n 3, 1) := by decide +kernel
theorem dX10_readsSayings_17 : decode cX10_readsSayings 17 = .ok (.iload_n 1, 1) := by decide +kernel
theorem dX10_readsSayings_18 : decode cX10_readsSayings 18 = .ok (.if_icmp .ge 156, 3) := by decide +kernel
theorem dX10_readsSayings_21 : decode cX10_readsSayings 21 = .ok (.aload_n 0, 1) := by decide +kernel
theorem dX10_readsSayings_22 : decode cX10_readsSayings 22 = .ok (.getfield 22, 3) := by decide +kernel
theorem dX10_readsSayings_25 : decode cX10_readsSayings 25 = .ok (.bipush 64, 2) := by decide +kernel
theorem dX10_readsSayings_27 : decode cX10_readsSayings 27 = .ok (.iload_n 3, 1) := by decide +kernel
theorem dX10_readsSayings_28 : decode cX10_readsSayings 28 = .ok (.iadd, 1) := by decide +kernel
theorem dX10_readsSayings_29 : decode cX10_readsSayings 29 = .ok (.iaload, 1) := by decide +kernel
theorem dX10_readsSayings_30 : decode cX10_readsSayings 30 = .ok (.istore 4, 2) := by decide +kernel
theorem dX10_readsSayings_32 : decode cX10_readsSayings 32 = .ok (.iload_n 2, 1) := by decide +kernel
theorem dX10_readsSayings_33 : decode cX10_readsSayings 33 = .ok (.iconst 3, 1) := by decide +kernel
theorem dX10_readsSayings_34 : decode cX10_readsSayings 34 = .ok (.if_icmp .le 14, 3) := by decide +kernel
theorem dX10_readsSayings_37 : decode cX10_readsSayings 37 = .ok (.iload 4, 2) := by decide +kernel
theorem dX10_readsSayings_39 : decode cX10_readsSayings 39 = .ok (.bipush 59, 2) := by decide +kernel
theorem dX10_readsSayings_41 : decode cX10_readsSayings 41 = .ok (.if_icmp .ne 7, 3) := by decide +kernel
theorem dX10_readsSayings_44 : decode cX10_readsSayings 44 = .ok (.iconst 1, 1) := by decide +kernel
theorem dX10_readsSayings_45 : decode cX10_readsSayings 45 = .ok (.goto 4, 3) := by decide +kernel
theorem dX10_readsSayings_48 : decode cX10_readsSayings 48 = .ok (.iconst 0, 1) := by decide +kernel
theorem dX10_readsSayings_49 : decode cX10_readsSayings 49 = .ok (.istore 5, 2) := by decide +kernel
theorem dX10_readsSayings_51 : decode cX10_readsSayings 51 = .ok (.aload_n 0, 1) := by decide +kernel
theorem dX10_readsSayings_52 : decode cX10_readsSayings 52 = .ok (.getfield 134, 3) := by decide +kernel
theorem dX10_readsSayings_55 : decode cX10_readsSayings 55 = .ok (.bipush 8, 2) := by decide +kernel
theorem dX10_readsSayings_57 : decode cX10_readsSayings 57 = .ok (.if_icmp .ge 12, 3) := by decide +kernel
theorem dX10_readsSayings_60 : decode cX10_readsSayings 60 = .ok (.iload_n 2, 1) := by decide +kernel
theorem dX10_readsSayings_61 : decode cX10_readsSayings 61 = .ok (.iload 4, 2) := by decide +kernel
theorem dX10_readsSayings_63 : decode cX10_readsSayings 63 = .ok (.invokestatic 137, 3) := by decide +kernel
theorem dX10_readsSayings_66 : decode cX10_readsSayings 66 = .ok (.goto 5, 3) := by decide +kernel
theorem dX10_readsSayings_69 : decode cX10_readsSayings 69 = .ok (.bipush (-9), 2) := by decide +kernel
theorem dX10_readsSayings_71 : decode cX10_readsSayings 71 = .ok (.istore 6, 2) := by decide +kernel
theorem dX10_readsSayings_73 : decode cX10_readsSayings 73 = .ok (.iload 6, 2) := by decide +kernel
theorem dX10_readsSayings_75 : decode cX10_readsSayings 75 = .ok (.bipush (-9), 2) := by decide +kernel
theorem dX10_readsSayings_77 : decode cX10_readsSayings 77 = .ok (.if_icmp .ne 15, 3) := by decide +kernel
theorem dX10_readsSayings_80 : decode cX10_readsSayings 80 = .ok (.iload 5, 2) := by decide +kernel
theorem dX10_readsSayings_82 : decode cX10_readsSayings 82 = .ok (.ifCond .ne 10, 3) := by decide +kernel
theorem dX10_readsSayings_85 : decode cX10_readsSayings 85 = .ok (.aload_n 0, 1) := by decide +kernel
theorem dX10_readsSayings_86 : decode cX10_readsSayings 86 = .ok (.iconst 0, 1) := by decide +kernel
theorem dX10_readsSayings_87 : decode cX10_readsSayings 87 = .ok (.putfield 134, 3) := by decide +kernel
theorem dX10_readsSayings_90 : decode cX10_readsSayings 90 = .ok (.iload_n 3, 1) := by decide +kernel
theorem dX10_readsSayings_91 : decode cX10_readsSayings 91 = .ok (.ireturn, 1) := by decide +kernel
theorem dX10_readsSayings_92 : decode cX10_readsSayings 92 = .ok (.iload 5, 2) := by decide +kernel
theorem dX10_readsSayings_94 : decode cX10_readsSayings 94 = .ok (.ifCond .eq 18, 3) := by decide +kernel
theorem dX10_readsSayings_97 : decode cX10_readsSayings 97 = .ok (.aload_n 0, 1) := by decide +kernel
theorem dX10_readsSayings_98 : decode cX10_readsSayings 98 = .ok (.dup, 1) := by decide +kernel
theorem dX10_readsSayings_99 : decode cX10_readsSayings 99 = .ok (.getfield 134, 3) := by decide +kernel
theorem dX10_readsSayings_102 : decode cX10_readsSayings 102 = .ok (.iconst 1, 1) := by decide +kernel
theorem dX10_readsSayings_103 : decode cX10_readsSayings 103 = .ok (.iadd, 1) := by decide +kernel
theorem dX10_readsSayings_104 : decode cX10_readsSayings 104 = .ok (.putfield 134, 3) := by decide +kernel
theorem dX10_readsSayings_107 : decode cX10_readsSayings 107 = .ok (.iconst 0, 1) := by decide +kernel
theorem dX10_readsSayings_108 : decode cX10_readsSayings 108 = .ok (.istore_n 2, 1) := by decide +kernel
theorem dX10_readsSayings_109 : decode cX10_readsSayings 109 = .ok (.goto 59, 3) := by decide +kernel
theorem dX10_readsSayings_112 : decode cX10_readsSayings 112 = .ok (.aload_n 0, 1) := by decide +kernel
theorem dX10_readsSayings_113 : decode cX10_readsSayings 113 = .ok (.getfield 31, 3) := by decide +kernel
theorem dX10_readsSayings_116 : decode cX10_readsSayings 116 = .ok (.bipush 8, 2) := by decide +kernel
theorem dX10_readsSayings_118 : decode cX10_readsSayings 118 = .ok (.aload_n 0, 1) := by decide +kernel
theorem dX10_readsSayings_119 : decode cX10_readsSayings 119 = .ok (.getfield 134, 3) := by decide +kernel
theorem dX10_readsSayings_122 : decode cX10_readsSayings 122 = .ok (.imul, 1) := by decide +kernel
theorem dX10_readsSayings_123 : decode cX10_readsSayings 123 = .ok (.iload_n 2, 1) := by decide +kernel
theorem dX10_readsSayings_124 : decode cX10_readsSayings 124 = .ok (.iconst 3, 1) := by decide +kernel
theorem dX10_readsSayings_125 : decode cX10_readsSayings 125 = .ok (.if_icmp .ge 7, 3) := by decide +kernel
theorem dX10_readsSayings_128 : decode cX10_readsSayings 128 = .ok (.iload_n 2, 1) := by decide +kernel
theorem dX10_readsSayings_129 : decode cX10_readsSayings 129 = .ok (.goto 6, 3) := by decide +kernel
theorem dX10_readsSayings_132 : decode cX10_readsSayings 132 = .ok (.iload_n 2, 1) := by decide +kernel
theorem dX10_readsSayings_133 : decode cX10_readsSayings 133 = .ok (.iconst 1, 1) := by decide +kernel
theorem dX10_readsSayings_134 : decode cX10_readsSayings 134 = .ok (.iadd, 1) := by decide +kernel
theorem dX10_readsSayings_135 : decode cX10_readsSayings 135 = .ok (.iadd, 1) := by decide +kernel
theorem dX10_readsSayings_136 : decode cX10_readsSayings 136 = .ok (.iload 6, 2) := by decide +kernel
theorem dX10_readsSayings_138 : decode cX10_readsSayings 138 = .ok (.iastore, 1) := by decide +kernel
theorem dX10_readsSayings_139 : decode cX10_readsSayings 139 = .ok (.aload_n 0, 1) := by decide +kernel
theorem dX10_readsSayings_140 : decode cX10_readsSayings 140 = .ok (.getfield 31, 3) := by decide +kernel
theorem dX10_readsSayings_143 : decode cX10_readsSayings 143 = .ok (.bipush 8, 2) := by decide +kernel
theorem dX10_readsSayings_145 : decode cX10_readsSayings 145 = .ok (.aload_n 0, 1) := by decide +kernel
theorem dX10_readsSayings_146 : decode cX10_readsSayings 146 = .ok (.getfield 134, 3) := by decide +kernel
theorem dX10_readsSayings_149 : decode cX10_readsSayings 149 = .ok (.imul, 1) := by decide +kernel
theorem dX10_readsSayings_150 : decode cX10_readsSayings 150 = .ok (.iconst 3, 1) := by decide +kernel
theorem dX10_readsSayings_151 : decode cX10_readsSayings 151 = .ok (.iadd, 1) := by decide +kernel
theorem dX10_readsSayings_152 : decode cX10_readsSayings 152 = .ok (.iload_n 2, 1) := by decide +kernel
theorem dX10_readsSayings_153 : decode cX10_readsSayings 153 = .ok (.iconst 3, 1) := by decide +kernel
theorem dX10_readsSayings_154 : decode cX10_readsSayings 154 = .ok (.if_icmp .ge 7, 3) := by decide +kernel
theorem dX10_readsSayings_157 : decode cX10_readsSayings 157 = .ok (.iconst 0, 1) := by decide +kernel
theorem dX10_readsSayings_158 : decode cX10_readsSayings 158 = .ok (.goto 6, 3) := by decide +kernel
theorem dX10_readsSayings_161 : decode cX10_readsSayings 161 = .ok (.iload_n 2, 1) := by decide +kernel
theorem dX10_readsSayings_162 : decode cX10_readsSayings 162 = .ok (.iconst 2, 1) := by decide +kernel
theorem dX10_readsSayings_163 : decode cX10_readsSayings 163 = .ok (.isub, 1) := by decide +kernel
theorem dX10_readsSayings_164 : decode cX10_readsSayings 164 = .ok (.iastore, 1) := by decide +kernel
theorem dX10_readsSayings_165 : decode cX10_readsSayings 165 = .ok (.iinc 2 1, 3) := by decide +kernel
theorem dX10_readsSayings_168 : decode cX10_readsSayings 168 = .ok (.iinc 3 1, 3) := by decide +kernel
theorem dX10_readsSayings_171 : decode cX10_readsSayings 171 = .ok (.goto (-155), 3) := by decide +kernel
theorem dX10_readsSayings_174 : decode cX10_readsSayings 174 = .ok (.iload_n 1, 1) := by decide +kernel
theorem dX10_readsSayings_175 : decode cX10_readsSayings 175 = .ok (.ifCond .le 15, 3) := by decide +kernel
theorem dX10_readsSayings_178 : decode cX10_readsSayings 178 = .ok (.iload_n 2, 1) := by decide +kernel
theorem dX10_readsSayings_179 : decode cX10_readsSayings 179 = .ok (.iconst 4, 1) := by decide +kernel
theorem dX10_readsSayings_180 : decode cX10_readsSayings 180 = .ok (.if_icmp .ge 10, 3) := by decide +kernel
theorem dX10_readsSayings_183 : decode cX10_readsSayings 183 = .ok (.aload_n 0, 1) := by decide +kernel
theorem dX10_readsSayings_184 : decode cX10_readsSayings 184 = .ok (.iconst 0, 1) := by decide +kernel
theorem dX10_readsSayings_185 : decode cX10_readsSayings 185 = .ok (.putfield 134, 3) := by decide +kernel
theorem dX10_readsSayings_188 : decode cX10_readsSayings 188 = .ok (.iload_n 1, 1) := by decide +kernel
theorem dX10_readsSayings_189 : decode cX10_readsSayings 189 = .ok (.ireturn, 1) := by decide +kernel
theorem dX10_readsSayings_190 : decode cX10_readsSayings 190 = .ok (.aload_n 0, 1) := by decide +kernel
theorem dX10_readsSayings_191 : decode cX10_readsSayings 191 = .ok (.dup, 1) := by decide +kernel
theorem dX10_readsSayings_192 : decode cX10_readsSayings 192 = .ok (.getfield 134, 3) := by decide +kernel
theorem dX10_readsSayings_195 : decode cX10_readsSayings 195 = .ok (.iload_n 1, 1) := by decide +kernel
theorem dX10_readsSayings_196 : decode cX10_readsSayings 196 = .ok (.ifCond .le 7, 3) := by decide +kernel
theorem dX10_readsSayings_199 : decode cX10_readsSayings 199 = .ok (.iconst 1, 1) := by decide +kernel
theorem dX10_readsSayings_200 : decode cX10_readsSayings 200 = .ok (.goto 4, 3) := by decide +kernel
theorem dX10_readsSayings_203 : decode cX10_readsSayings 203 = .ok (.iconst 0, 1) := by decide +kernel
theorem dX10_readsSayings_204 : decode cX10_readsSayings 204 = .ok (.iadd, 1) := by decide +kernel
theorem dX10_readsSayings_205 : decode cX10_readsSayings 205 = .ok (.putfield 134, 3) := by decide +kernel
theorem dX10_readsSayings_208 : decode cX10_readsSayings 208 = .ok (.iconst (-1), 1) := by decide +kernel
theorem dX10_readsSayings_209 : decode cX10_readsSayings 209 = .ok (.ireturn, 1) := by decide +kernel
noncomputable def F10_readsSayings_b204 (s1 : Int32) (s2 : Int32) (M : Mem) : Option (Int32 × Mem) :=
  some ((-1 : Int32), (mset M 0 9 (s1 + s2)))
noncomputable def F10_readsSayings_b190 (a1 : Int32) (M : Mem) : Option (Int32 × Mem) :=
  (if a1 ≤ (0 : Int32) then F10_readsSayings_b204 (M 0 9) (0 : Int32) M else F10_readsSayings_b204 (M 0 9) (1 : Int32) M)
noncomputable def F10_readsSayings_b174 (a1 : Int32) (a2 : Int32) (M : Mem) : Option (Int32 × Mem) :=
  (if a1 ≤ (0 : Int32) then F10_readsSayings_b190 a1 M else (if (4 : Int32) ≤ a2 then F10_readsSayings_b190 a1 M else some (a1, (mset M 0 9 (0 : Int32)))))
noncomputable def F10_readsSayings_b85 (a3 : Int32) (M : Mem) : Option (Int32 × Mem) :=
  some (a3, (mset M 0 9 (0 : Int32)))
noncomputable def F10_readsSayings_b168 (kh : Int32 → Int32 → Int32 → Mem → Option (Int32 × Mem)) (kx85 : Int32 → Mem → Option (Int32 × Mem)) (kx174 : Int32 → Int32 → Mem → Option (Int32 × Mem)) (a1 : Int32) (a2 : Int32) (a3 : Int32) (M : Mem) : Option (Int32 × Mem) :=
  kh a1 a2 (a3 + (1 : Int32)) M
noncomputable def F10_readsSayings_b164 (kh : Int32 → Int32 → Int32 → Mem → Option (Int32 × Mem)) (kx85 : Int32 → Mem → Option (Int32 × Mem)) (kx174 : Int32 → Int32 → Mem → Option (Int32 × Mem)) (a1 : Int32) (a2 : Int32) (a3 : Int32) (s1 : Int32) (s2 : Int32) (M : Mem) : Option (Int32 × Mem) :=
  (ck s1 64 ((F10_readsSayings_b168 kh kx85 kx174) a1 (a2 + (1 : Int32)) a3 (mset M 8 s1.toNatClampNeg s2)))
noncomputable def F10_readsSayings_b135 (kh : Int32 → Int32 → Int32 → Mem → Option (Int32 × Mem)) (kx85 : Int32 → Mem → Option (Int32 × Mem)) (kx174 : Int32 → Int32 → Mem → Option (Int32 × Mem)) (a1 : Int32) (a2 : Int32) (a3 : Int32) (a6 : Int32) (s1 : Int32) (s2 : Int32) (M : Mem) : Option (Int32 × Mem) :=
  (ck (s1 + s2) 64 (lt (mset M 8 (s1 + s2).toNatClampNeg a6) (fun M9 => (if (3 : Int32) ≤ a2 then (F10_readsSayings_b164 kh kx85 kx174) a1 a2 a3 (((8 : Int32) * (M9 0 9)) + (3 : Int32)) (a2 - (2 : Int32)) M9 else (F10_readsSayings_b164 kh kx85 kx174) a1 a2 a3 (((8 : Int32) * (M9 0 9)) + (3 : Int32)) (0 : Int32) M9))))
noncomputable def F10_readsSayings_b92 (kh : Int32 → Int32 → Int32 → Mem → Option (Int32 × Mem)) (kx85 : Int32 → Mem → Option (Int32 × Mem)) (kx174 : Int32 → Int32 → Mem → Option (Int32 × Mem)) (a1 : Int32) (a2 : Int32) (a3 : Int32) (a5 : Int32) (a6 : Int32) (M : Mem) : Option (Int32 × Mem) :=
  (if a5 = (0 : Int32) then (if (3 : Int32) ≤ a2 then (F10_readsSayings_b135 kh kx85 kx174) a1 a2 a3 a6 ((8 : Int32) * (M 0 9)) (a2 + (1 : Int32)) M else (F10_readsSayings_b135 kh kx85 kx174) a1 a2 a3 a6 ((8 : Int32) * (M 0 9)) a2 M) else (F10_readsSayings_b168 kh kx85 kx174) a1 (0 : Int32) a3 (mset M 0 9 ((M 0 9) + (1 : Int32))))
noncomputable def F10_readsSayings_b71 (kh : Int32 → Int32 → Int32 → Mem → Option (Int32 × Mem)) (kx85 : Int32 → Mem → Option (Int32 × Mem)) (kx174 : Int32 → Int32 → Mem → Option (Int32 × Mem)) (a1 : Int32) (a2 : Int32) (a3 : Int32) (a5 : Int32) (s0 : Int32) (M : Mem) : Option (Int32 × Mem) :=
  (if s0 = (-9 : Int32) then (if a5 = (0 : Int32) then kx85 a3 M else (F10_readsSayings_b92 kh kx85 kx174) a1 a2 a3 a5 s0 M) else (F10_readsSayings_b92 kh kx85 kx174) a1 a2 a3 a5 s0 M)
noncomputable def F10_readsSayings_b49 (kh : Int32 → Int32 → Int32 → Mem → Option (Int32 × Mem)) (kx85 : Int32 → Mem → Option (Int32 × Mem)) (kx174 : Int32 → Int32 → Mem → Option (Int32 × Mem)) (a1 : Int32) (a2 : Int32) (a3 : Int32) (a4 : Int32) (s0 : Int32) (M : Mem) : Option (Int32 × Mem) :=
  (if (8 : Int32) ≤ (M 0 9) then (F10_readsSayings_b71 kh kx85 kx174) a1 a2 a3 s0 (-9 : Int32) M else ((F10_sayingOf a2 a4).bind (fun q10 => ((F10_readsSayings_b71 kh kx85 kx174) a1 a2 a3 s0 q10 M))))
noncomputable def F10_readsSayings_b48 (kh : Int32 → Int32 → Int32 → Mem → Option (Int32 × Mem)) (kx85 : Int32 → Mem → Option (Int32 × Mem)) (kx174 : Int32 → Int32 → Mem → Option (Int32 × Mem)) (a1 : Int32) (a2 : Int32) (a3 : Int32) (a4 : Int32) (M : Mem) : Option (Int32 × Mem) :=
  (F10_readsSayings_b49 kh kx85 kx174) a1 a2 a3 a4 (0 : Int32) M
noncomputable def F10_readsSayings_p16 (kh : Int32 → Int32 → Int32 → Mem → Option (Int32 × Mem)) (kx85 : Int32 → Mem → Option (Int32 × Mem)) (kx174 : Int32 → Int32 → Mem → Option (Int32 × Mem)) (a1 : Int32) (a2 : Int32) (a3 : Int32) (M : Mem) : Option (Int32 × Mem) :=
  (if a1 ≤ a3 then kx174 a1 a2 M else (ck ((64 : Int32) + a3) 128 (if a2 ≤ (3 : Int32) then (F10_readsSayings_b48 kh kx85 kx174) a1 a2 a3 (M 5 ((64 : Int32) + a3).toNatClampNeg) M else (if (M 5 ((64 : Int32) + a3).toNatClampNeg) = (59 : Int32) then (F10_readsSayings_b49 kh kx85 kx174) a1 a2 a3 (M 5 ((64 : Int32) + a3).toNatClampNeg) (1 : Int32) M else (F10_readsSayings_b48 kh kx85 kx174) a1 a2 a3 (M 5 ((64 : Int32) + a3).toNatClampNeg) M))))
noncomputable def F10_readsSayings_h16 (kx85 : Int32 → Mem → Option (Int32 × Mem)) (kx174 : Int32 → Int32 → Mem → Option (Int32 × Mem)) : Nat → Int32 → Int32 → Int32 → Mem → Option (Int32 × Mem)
  | 0, _, _, _, _ => none
  | n + 1, a1, a2, a3, M => F10_readsSayings_p16 (F10_readsSayings_h16 kx85 kx174 n) kx85 kx174 a1 a2 a3 M
noncomputable def F10_readsSayings (mm : Mem) : Option (Int32 × Mem) :=
  (lt (mset mm 0 9 (0 : Int32)) (fun M12 => ((F10_readsSayings_h16 F10_readsSayings_b85 F10_readsSayings_b174 FU) (M12 6 (1 : Int32).toNatClampNeg) (0 : Int32) (0 : Int32) M12)))
set_option maxHeartbeats 4000000 in
set_option maxRecDepth 100000 in
theorem kX10_readsSayings (l : Launch) (g : GG) (mc mm : Mem) (q : Int32 × Mem) (hF : F10_readsSayings mm = some q) : KI l yX10_readsSayings cX10_readsSayings 7 .int 2 46 g [.ref (g.1 108)] mc mm q.1 (mc, q.2) := by
  intro sz
  refine x_start (Qc := fun z => QI g z q.1 (mc, q.2)) (by decide +kernel) (Nat.le_of_ble_eq_true rfl) ?_ sz
  intro p e s m args below meth c ls Z hr hlk hP hl
  have hx := Z.1.1
  have hb := Z.1.2.1
  have hown := Z.1.2.2.2.1
  have hts := Z.1.2.2.2.2
  have hS : va_S (AA g s.heap.size) s.heap s.heap [] := va_S.rf
  have hl : lv_has ls 7 [(0, .ref (g.1 108))] := hl
  unfold F10_readsSayings at hF
  have hb204 : ∀ (s1 : Int32) (s2 : Int32) (M : Mem), F10_readsSayings_b204 s1 s2 M = some q → ∀ (H : Heap) (locs : List Loc) (ls : Array Slot), lv_has ls 7 [] → va_P g.2.2.1 vwCl (wL g mc M) H → va_S (AA g s.heap.size) s.heap H locs → W p l e { frames := 2, cells := 0, slots := 0, locals := 46 } s m args below meth c H locs 0 0 (MQ below (QI g s.heap.size q.1 (mc, q.2)) args s 0 0 (AA g s.heap.size)) (F0 m 204 ls [.int s2, .int s1, .ref (g.1 108)]) := by
    intro s1 s2 M hF H locs ls hl hP hS
    unfold F10_readsSayings_b204 at hF
    refine lv_iadd hx hb dX10_readsSayings_204 ?_
    refine pf10_9 Z hP hS wd_15_5 dX10_readsSayings_205 (fun H locs hP hS => ?_)
    refine lv_iconst (v := (-1 : Int32)) hx hb dX10_readsSayings_208 ic_m1 ?_
    exact ret_IWM Z hr hlk hP hS hF dX10_readsSayings_209
  have hb190 : ∀ (a1 : Int32) (M : Mem), F10_readsSayings_b190 a1 M = some q → ∀ (H : Heap) (locs : List Loc) (ls : Array Slot), lv_has ls 7 [(0, .ref (g.1 108)), (1, .int a1)] → va_P g.2.2.1 vwCl (wL g mc M) H → va_S (AA g s.heap.size) s.heap H locs → W p l e { frames := 2, cells := 0, slots := 0, locals := 46 } s m args below meth c H locs 0 0 (MQ below (QI g s.heap.size q.1 (mc, q.2)) args s 0 0 (AA g s.heap.size)) (F0 m 190 ls []) := by
    intro a1 M hF H locs ls hl hP hS
    unfold F10_readsSayings_b190 at hF
    refine lv_aload_n hx hb dX10_readsSayings_190 rfl (lv_at hl 0 rfl) ?_
    refine lv_dup hx hb dX10_readsSayings_191 rfl ?_
    refine gf10_9 Z hP wd_15_5 dX10_readsSayings_192 ?_
    refine lv_iload_n hx hb dX10_readsSayings_195 rfl (lv_at hl 1 rfl) ?_
    refine lv_if_le (tgt := 203) hx hb dX10_readsSayings_196 rfl (fun hc => ?_) (fun hc => ?_)
    · have hF := (if_pos hc).symm.trans hF
      refine lv_iconst (v := (0 : Int32)) hx hb dX10_readsSayings_203 ic_0 ?_
      exact hb204 _ _ _ hF _ _ _ (lv_sub hl [] rfl) hP hS
    · have hF := (if_neg hc).symm.trans hF
      refine lv_iconst (v := (1 : Int32)) hx hb dX10_readsSayings_199 ic_1 ?_
      refine lv_goto (tgt := 204) hx hb dX10_readsSayings_200 rfl ?_
      exact hb204 _ _ _ hF _ _ _ (lv_sub hl [] rfl) hP hS
  have hb174 : ∀ (a1 : Int32) (a2 : Int32) (M : Mem), F10_readsSayings_b174 a1 a2 M = some q → ∀ (H : Heap) (locs : List Loc) (ls : Array Slot), lv_has ls 7 [(0, .ref (g.1 108)), (1, .int a1), (2, .int a2)] → va_P g.2.2.1 vwCl (wL g mc M) H → va_S (AA g s.heap.size) s.heap H locs → W p l e { frames := 2, cells := 0, slots := 0, locals := 46 } s m args below meth c H locs 0 0 (MQ below (QI g s.heap.size q.1 (mc, q.2)) args s 0 0 (AA g s.heap.size)) (F0 m 174 ls []) := by
    intro a1 a2 M hF H locs ls hl hP hS
    unfold F10_readsSayings_b174 at hF
    refine lv_iload_n hx hb dX10_readsSayings_174 rfl (lv_at hl 1 rfl) ?_
    refine lv_if_le (tgt := 190) hx hb dX10_readsSayings_175 rfl (fun hc => ?_) (fun hc => ?_)
    · have hF := (if_pos hc).symm.trans hF
      exact hb190 _ _ hF _ _ _ (lv_sub hl [0, 1] rfl) hP hS
    · have hF := (if_neg hc).symm.trans hF
      refine lv_iload_n hx hb dX10_readsSayings_178 rfl (lv_at hl 2 rfl) ?_
      refine lv_iconst (v := (4 : Int32)) hx hb dX10_readsSayings_179 ic_4 ?_
      refine lv_icmp_ge (tgt := 190) hx hb dX10_readsSayings_180 rfl (fun hc => ?_) (fun hc => ?_)
      · have hF := (if_pos hc).symm.trans hF
        exact hb190 _ _ hF _ _ _ (lv_sub hl [0, 1] rfl) hP hS
      · have hF := (if_neg hc).symm.trans hF
        refine lv_aload_n hx hb dX10_readsSayings_183 rfl (lv_at hl 0 rfl) ?_
        refine lv_iconst (v := (0 : Int32)) hx hb dX10_readsSayings_184 ic_0 ?_
        refine pf10_9 Z hP hS wd_15_5 dX10_readsSayings_185 (fun H locs hP hS => ?_)
        refine lv_iload_n hx hb dX10_readsSayings_188 rfl (lv_at hl 1 rfl) ?_
        exact ret_IWM Z hr hlk hP hS hF dX10_readsSayings_189
  have hb85 : ∀ (a3 : Int32) (M : Mem), F10_readsSayings_b85 a3 M = some q → ∀ (H : Heap) (locs : List Loc) (ls : Array Slot), lv_has ls 7 [(0, .ref (g.1 108)), (3, .int a3)] → va_P g.2.2.1 vwCl (wL g mc M) H → va_S (AA g s.heap.size) s.heap H locs → W p l e { frames := 2, cells := 0, slots := 0, locals := 46 } s m args below meth c H locs 0 0 (MQ below (QI g s.heap.size q.1 (mc, q.2)) args s 0 0 (AA g s.heap.size)) (F0 m 85 ls []) := by
    intro a3 M hF H locs ls hl hP hS
    unfold F10_readsSayings_b85 at hF
    refine lv_aload_n hx hb dX10_readsSayings_85 rfl (lv_at hl 0 rfl) ?_
    refine lv_iconst (v := (0 : Int32)) hx hb dX10_readsSayings_86 ic_0 ?_
    refine pf10_9 Z hP hS wd_15_5 dX10_readsSayings_87 (fun H locs hP hS => ?_)
    refine lv_iload_n hx hb dX10_readsSayings_90 rfl (lv_at hl 1 rfl) ?_
    exact ret_IWM Z hr hlk hP hS hF dX10_readsSayings_91
  have hL16 : ∀ (kx85 : Int32 → Mem → Option (Int32 × Mem)) (kx174 : Int32 → Int32 → Mem → Option (Int32 × Mem)), (∀ (a3 : Int32) (M : Mem), kx85 a3 M = some q → ∀ (H : Heap) (locs : List Loc) (ls : Array Slot), lv_has ls 7 [(0, .ref (g.1 108)), (3, .int a3)] → va_P g.2.2.1 vwCl (wL g mc M) H → va_S (AA g s.heap.size) s.heap H locs → W p l e { frames := 2, cells := 0, slots := 0, locals := 46 } s m args below meth c H locs 0 0 (MQ below (QI g s.heap.size q.1 (mc, q.2)) args s 0 0 (AA g s.heap.size)) (F0 m 85 ls [])) → (∀ (a1 : Int32) (a2 : Int32) (M : Mem), kx174 a1 a2 M = some q → ∀ (H : Heap) (locs : List Loc) (ls : Array Slot), lv_has ls 7 [(0, .ref (g.1 108)), (1, .int a1), (2, .int a2)] → va_P g.2.2.1 vwCl (wL g mc M) H → va_S (AA g s.heap.size) s.heap H locs → W p l e { frames := 2, cells := 0, slots := 0, locals := 46 } s m args below meth c H locs 0 0 (MQ below (QI g s.heap.size q.1 (mc, q.2)) args s 0 0 (AA g s.heap.size)) (F0 m 174 ls [])) → ∀ n : Nat, ∀ (a1 : Int32) (a2 : Int32) (a3 : Int32) (M : Mem), F10_readsSayings_h16 kx85 kx174 n a1 a2 a3 M = some q → ∀ (H : Heap) (locs : List Loc) (ls : Array Slot), lv_has ls 7 [(0, .ref (g.1 108)), (1, .int a1), (2, .int a2), (3, .int a3)] → va_P g.2.2.1 vwCl (wL g mc M) H → va_S (AA g s.heap.size) s.heap H locs → W p l e { frames := 2, cells := 0, slots := 0, locals := 46 } s m args below meth c H locs 0 0 (MQ below (QI g s.heap.size q.1 (mc, q.2)) args s 0 0 (AA g s.heap.size)) (F0 m 16 ls []) := by
    intro kx85 kx174 hx85 hx174 n
    induction n with
    | zero => intro a1 a2 a3 M hF H locs ls hl hP hS; exact absurd hF (fun z => nomatch (show (none : Option _) = some q from z))
    | succ n ih =>
      generalize hkh : F10_readsSayings_h16 kx85 kx174 n = kh at ih
      have hb168 : ∀ (a1 : Int32) (a2 : Int32) (a3 : Int32) (M : Mem), F10_readsSayings_b168 kh kx85 kx174 a1 a2 a3 M = some q → ∀ (H : Heap) (locs : List Loc) (ls : Array Slot), lv_has ls 7 [(0, .ref (g.1 108)), (1, .int a1), (2, .int a2), (3, .int a3)] → va_P g.2.2.1 vwCl (wL g mc M) H → va_S (AA g s.heap.size) s.heap H locs → W p l e { frames := 2, cells := 0, slots := 0, locals := 46 } s m args below meth c H locs 0 0 (MQ below (QI g s.heap.size q.1 (mc, q.2)) args s 0 0 (AA g s.heap.size)) (F0 m 168 ls []) := by
        intro a1 a2 a3 M hF H locs ls hl hP hS
        unfold F10_readsSayings_b168 at hF
        refine lv_iinc (lv' := [(3, .int (a3 + (1 : Int32))), (0, .ref (g.1 108)), (1, .int a1), (2, .int a2)]) (v := (a3 + (1 : Int32))) hx hb dX10_readsSayings_168 hl (k := 3) rfl (io_1 _) (Nat.le_of_ble_eq_true rfl) rfl (fun ls hl => ?_)
        refine lv_goto (tgt := 16) hx hb dX10_readsSayings_171 rfl ?_
        exact ih _ _ _ _ hF _ _ _ (lv_sub hl [1, 2, 3, 0] rfl) hP hS
      have hb164 : ∀ (a1 : Int32) (a2 : Int32) (a3 : Int32) (s1 : Int32) (s2 : Int32) (M : Mem), F10_readsSayings_b164 kh kx85 kx174 a1 a2 a3 s1 s2 M = some q → ∀ (H : Heap) (locs : List Loc) (ls : Array Slot), lv_has ls 7 [(0, .ref (g.1 108)), (1, .int a1), (2, .int a2), (3, .int a3)] → va_P g.2.2.1 vwCl (wL g mc M) H → va_S (AA g s.heap.size) s.heap H locs → W p l e { frames := 2, cells := 0, slots := 0, locals := 46 } s m args below meth c H locs 0 0 (MQ below (QI g s.heap.size q.1 (mc, q.2)) args s 0 0 (AA g s.heap.size)) (F0 m 164 ls [.int s2, .int s1, .ref (g.1 116)]) := by
        intro a1 a2 a3 s1 s2 M hF H locs ls hl hP hS
        unfold F10_readsSayings_b164 at hF
        obtain ⟨hi7, hF⟩ := ck_ok hF
        refine rM_st Z hP hS 64 8 (by decide +kernel) hi7 dX10_readsSayings_164 (fun H locs hP hS => ?_)
        refine lv_iinc (lv' := [(2, .int (a2 + (1 : Int32))), (0, .ref (g.1 108)), (1, .int a1), (3, .int a3)]) (v := (a2 + (1 : Int32))) hx hb dX10_readsSayings_165 hl (k := 2) rfl (io_1 _) (Nat.le_of_ble_eq_true rfl) rfl (fun ls hl => ?_)
        exact hb168 _ _ _ _ hF _ _ _ (lv_sub hl [1, 2, 0, 3] rfl) hP hS
      have hb135 : ∀ (a1 : Int32) (a2 : Int32) (a3 : Int32) (a6 : Int32) (s1 : Int32) (s2 : Int32) (M : Mem), F10_readsSayings_b135 kh kx85 kx174 a1 a2 a3 a6 s1 s2 M = some q → ∀ (H : Heap) (locs : List Loc) (ls : Array Slot), lv_has ls 7 [(0, .ref (g.1 108)), (1, .int a1), (2, .int a2), (3, .int a3), (6, .int a6)] → va_P g.2.2.1 vwCl (wL g mc M) H → va_S (AA g s.heap.size) s.heap H locs → W p l e { frames := 2, cells := 0, slots := 0, locals := 46 } s m args below meth c H locs 0 0 (MQ below (QI g s.heap.size q.1 (mc, q.2)) args s 0 0 (AA g s.heap.size)) (F0 m 135 ls [.int s2, .int s1, .ref (g.1 116)]) := by
        intro a1 a2 a3 a6 s1 s2 M hF H locs ls hl hP hS
        unfold F10_readsSayings_b135 at hF
        refine lv_iadd hx hb dX10_readsSayings_135 ?_
        refine lv_iload hx hb dX10_readsSayings_136 (lv_at hl 4 rfl) ?_
        obtain ⟨hi8, hF⟩ := ck_ok hF
        refine rM_st Z hP hS 64 8 (by decide +kernel) hi8 dX10_readsSayings_138 (fun H locs hP hS => ?_)
        refine lv_aload_n hx hb dX10_readsSayings_139 rfl (lv_at hl 0 rfl) ?_
        refine gf10_10 Z hP wd_6_11 dX10_readsSayings_140 ?_
        refine lv_bipush (v := (8 : Int32)) hx hb dX10_readsSayings_143 bp_8 ?_
        refine lv_aload_n hx hb dX10_readsSayings_145 rfl (lv_at hl 0 rfl) ?_
        obtain ⟨M9, eM9, hF⟩ := lt_ok hF
        have hP : va_P g.2.2.1 vwCl (wL g mc M9) H := by rw [eM9]; exact hP
        refine gf10_9 Z hP wd_15_5 dX10_readsSayings_146 ?_
        refine lv_imul hx hb dX10_readsSayings_149 ?_
        refine lv_iconst (v := (3 : Int32)) hx hb dX10_readsSayings_150 ic_3 ?_
        refine lv_iadd hx hb dX10_readsSayings_151 ?_
        refine lv_iload_n hx hb dX10_readsSayings_152 rfl (lv_at hl 2 rfl) ?_
        refine lv_iconst (v := (3 : Int32)) hx hb dX10_readsSayings_153 ic_3 ?_
        refine lv_icmp_ge (tgt := 161) hx hb dX10_readsSayings_154 rfl (fun hc => ?_) (fun hc => ?_)
        · have hF := (if_pos hc).symm.trans hF
          refine lv_iload_n hx hb dX10_readsSayings_161 rfl (lv_at hl 2 rfl) ?_
          refine lv_iconst (v := (2 : Int32)) hx hb dX10_readsSayings_162 ic_2 ?_
          refine lv_isub hx hb dX10_readsSayings_163 ?_
          exact hb164 _ _ _ _ _ _ hF _ _ _ (lv_sub hl [0, 1, 2, 3] rfl) hP hS
        · have hF := (if_neg hc).symm.trans hF
          refine lv_iconst (v := (0 : Int32)) hx hb dX10_readsSayings_157 ic_0 ?_
          refine lv_goto (tgt := 164) hx hb dX10_readsSayings_158 rfl ?_
          exact hb164 _ _ _ _ _ _ hF _ _ _ (lv_sub hl [0, 1, 2, 3] rfl) hP hS
      have hb92 : ∀ (a1 : Int32) (a2 : Int32) (a3 : Int32) (a5 : Int32) (a6 : Int32) (M : Mem), F10_readsSayings_b92 kh kx85 kx174 a1 a2 a3 a5 a6 M = some q → ∀ (H : Heap) (locs : List Loc) (ls : Array Slot), lv_has ls 7 [(0, .ref (g.1 108)), (1, .int a1), (2, .int a2), (3, .int a3), (5, .int a5), (6, .int a6)] → va_P g.2.2.1 vwCl (wL g mc M) H → va_S (AA g s.heap.size) s.heap H locs → W p l e { frames := 2, cells := 0, slots := 0, locals := 46 } s m args below meth c H locs 0 0 (MQ below (QI g s.heap.size q.1 (mc, q.2)) args s 0 0 (AA g s.heap.size)) (F0 m 92 ls []) := by
        intro a1 a2 a3 a5 a6 M hF H locs ls hl hP hS
        unfold F10_readsSayings_b92 at hF
        refine lv_iload hx hb dX10_readsSayings_92 (lv_at hl 4 rfl) ?_
        refine lv_if_eq (tgt := 112) hx hb dX10_readsSayings_94 rfl (fun hc => ?_) (fun hc => ?_)
        · have hF := (if_pos hc).symm.trans hF
          refine lv_aload_n hx hb dX10_readsSayings_112 rfl (lv_at hl 0 rfl) ?_
          refine gf10_10 Z hP wd_6_11 dX10_readsSayings_113 ?_
          refine lv_bipush (v := (8 : Int32)) hx hb dX10_readsSayings_116 bp_8 ?_
          refine lv_aload_n hx hb dX10_readsSayings_118 rfl (lv_at hl 0 rfl) ?_
          refine gf10_9 Z hP wd_15_5 dX10_readsSayings_119 ?_
          refine lv_imul hx hb dX10_readsSayings_122 ?_
          refine lv_iload_n hx hb dX10_readsSayings_123 rfl (lv_at hl 2 rfl) ?_
          refine lv_iconst (v := (3 : Int32)) hx hb dX10_readsSayings_124 ic_3 ?_
          refine lv_icmp_ge (tgt := 132) hx hb dX10_readsSayings_125 rfl (fun hc => ?_) (fun hc => ?_)
          · have hF := (if_pos hc).symm.trans hF
            refine lv_iload_n hx hb dX10_readsSayings_132 rfl (lv_at hl 2 rfl) ?_
            refine lv_iconst (v := (1 : Int32)) hx hb dX10_readsSayings_133 ic_1 ?_
            refine lv_iadd hx hb dX10_readsSayings_134 ?_
            exact hb135 _ _ _ _ _ _ _ hF _ _ _ (lv_sub hl [0, 1, 2, 3, 5] rfl) hP hS
          · have hF := (if_neg hc).symm.trans hF
            refine lv_iload_n hx hb dX10_readsSayings_128 rfl (lv_at hl 2 rfl) ?_
            refine lv_goto (tgt := 135) hx hb dX10_readsSayings_129 rfl ?_
            exact hb135 _ _ _ _ _ _ _ hF _ _ _ (lv_sub hl [0, 1, 2, 3, 5] rfl) hP hS
        · have hF := (if_neg hc).symm.trans hF
          refine lv_aload_n hx hb dX10_readsSayings_97 rfl (lv_at hl 0 rfl) ?_
          refine lv_dup hx hb dX10_readsSayings_98 rfl ?_
          refine gf10_9 Z hP wd_15_5 dX10_readsSayings_99 ?_
          refine lv_iconst (v := (1 : Int32)) hx hb dX10_readsSayings_102 ic_1 ?_
          refine lv_iadd hx hb dX10_readsSayings_103 ?_
          refine pf10_9 Z hP hS wd_15_5 dX10_readsSayings_104 (fun H locs hP hS => ?_)
          refine lv_iconst (v := (0 : Int32)) hx hb dX10_readsSayings_107 ic_0 ?_
          refine lv_istore_n (lv' := [(2, .int (0 : Int32)), (0, .ref (g.1 108)), (1, .int a1), (3, .int a3), (5, .int a5), (6, .int a6)]) hx hb dX10_readsSayings_108 rfl hl (Nat.le_of_ble_eq_true rfl) rfl (fun ls hl => ?_)
          refine lv_goto (tgt := 168) hx hb dX10_readsSayings_109 rfl ?_
          exact hb168 _ _ _ _ hF _ _ _ (lv_sub hl [1, 2, 0, 3] rfl) hP hS
      have hb71 : ∀ (a1 : Int32) (a2 : Int32) (a3 : Int32) (a5 : Int32) (s0 : Int32) (M : Mem), F10_readsSayings_b71 kh kx85 kx174 a1 a2 a3 a5 s0 M = some q → ∀ (H : Heap) (locs : List Loc) (ls : Array Slot), lv_has ls 7 [(0, .ref (g.1 108)), (1, .int a1), (2, .int a2), (3, .int a3), (5, .int a5)] → va_P g.2.2.1 vwCl (wL g mc M) H → va_S (AA g s.heap.size) s.heap H locs → W p l e { frames := 2, cells := 0, slots := 0, locals := 46 } s m args below meth c H locs 0 0 (MQ below (QI g s.heap.size q.1 (mc, q.2)) args s 0 0 (AA g s.heap.size)) (F0 m 71 ls [.int s0]) := by
        intro a1 a2 a3 a5 s0 M hF H locs ls hl hP hS
        unfold F10_readsSayings_b71 at hF
        refine lv_istore (lv' := [(6, .int s0), (0, .ref (g.1 108)), (1, .int a1), (2, .int a2), (3, .int a3), (5, .int a5)]) hx hb dX10_readsSayings_71 hl (Nat.le_of_ble_eq_true rfl) rfl (fun ls hl => ?_)
        refine lv_iload hx hb dX10_readsSayings_73 (lv_at hl 0 rfl) ?_
        refine lv_bipush (v := (-9 : Int32)) hx hb dX10_readsSayings_75 bp_m9 ?_
        refine lv_icmp_ne (tgt := 92) hx hb dX10_readsSayings_77 rfl (fun hc => ?_) (fun hc => ?_)
        · have hF := (if_neg hc).symm.trans hF
          exact hb92 _ _ _ _ _ _ hF _ _ _ (lv_sub hl [1, 2, 3, 4, 5, 0] rfl) hP hS
        · have hF := (if_pos hc).symm.trans hF
          refine lv_iload hx hb dX10_readsSayings_80 (lv_at hl 5 rfl) ?_
          refine lv_if_ne (tgt := 92) hx hb dX10_readsSayings_82 rfl (fun hc => ?_) (fun hc => ?_)
          · have hF := (if_neg hc).symm.trans hF
            exact hb92 _ _ _ _ _ _ hF _ _ _ (lv_sub hl [1, 2, 3, 4, 5, 0] rfl) hP hS
          · have hF := (if_pos hc).symm.trans hF
            exact hx85 _ _ hF _ _ _ (lv_sub hl [1, 4] rfl) hP hS
      have hb49 : ∀ (a1 : Int32) (a2 : Int32) (a3 : Int32) (a4 : Int32) (s0 : Int32) (M : Mem), F10_readsSayings_b49 kh kx85 kx174 a1 a2 a3 a4 s0 M = some q → ∀ (H : Heap) (locs : List Loc) (ls : Array Slot), lv_has ls 7 [(0, .ref (g.1 108)), (1, .int a1), (2, .int a2), (3, .int a3), (4, .int a4)] → va_P g.2.2.1 vwCl (wL g mc M) H → va_S (AA g s.heap.size) s.heap H locs → W p l e { frames := 2, cells := 0, slots := 0, locals := 46 } s m args below meth c H locs 0 0 (MQ below (QI g s.heap.size q.1 (mc, q.2)) args s 0 0 (AA g s.heap.size)) (F0 m 49 ls [.int s0]) := by
        intro a1 a2 a3 a4 s0 M hF H locs ls hl hP hS
        unfold F10_readsSayings_b49 at hF
        refine lv_istore (lv' := [(5, .int s0), (0, .ref (g.1 108)), (1, .int a1), (2, .int a2), (3, .int a3), (4, .int a4)]) hx hb dX10_readsSayings_49 hl (Nat.le_of_ble_eq_true rfl) rfl (fun ls hl => ?_)
        refine lv_aload_n hx hb dX10_readsSayings_51 rfl (lv_at hl 1 rfl) ?_
        refine gf10_9 Z hP wd_15_5 dX10_readsSayings_52 ?_
        refine lv_bipush (v := (8 : Int32)) hx hb dX10_readsSayings_55 bp_8 ?_
        refine lv_icmp_ge (tgt := 69) hx hb dX10_readsSayings_57 rfl (fun hc => ?_) (fun hc => ?_)
        · have hF := (if_pos hc).symm.trans hF
          refine lv_bipush (v := (-9 : Int32)) hx hb dX10_readsSayings_69 bp_m9 ?_
          exact hb71 _ _ _ _ _ _ hF _ _ _ (lv_sub hl [1, 2, 3, 4, 0] rfl) hP hS
        · have hF := (if_neg hc).symm.trans hF
          refine lv_iload_n hx hb dX10_readsSayings_60 rfl (lv_at hl 3 rfl) ?_
          refine lv_iload hx hb dX10_readsSayings_61 (lv_at hl 5 rfl) ?_
          obtain ⟨q10, hq10, hF⟩ := bd_ok hF
          refine xX10_sayingOf Z hP hS hq10 wd_15_6 hl.1 (Nat.le_of_ble_eq_true rfl) ⟨Nat.le_of_ble_eq_true rfl, Nat.le_of_ble_eq_true rfl⟩ dX10_readsSayings_63 (fun H locs hP hS => ?_)
          refine lv_goto (tgt := 71) hx hb dX10_readsSayings_66 rfl ?_
          exact hb71 _ _ _ _ _ _ hF _ _ _ (lv_sub hl [1, 2, 3, 4, 0] rfl) hP hS
      have hb48 : ∀ (a1 : Int32) (a2 : Int32) (a3 : Int32) (a4 : Int32) (M : Mem), F10_readsSayings_b48 kh kx85 kx174 a1 a2 a3 a4 M = some q → ∀ (H : Heap) (locs : List Loc) (ls : Array Slot), lv_has ls 7 [(0, .ref (g.1 108)), (1, .int a1), (2, .int a2), (3, .int a3), (4, .int a4)] → va_P g.2.2.1 vwCl (wL g mc M) H → va_S (AA g s.heap.size) s.heap H locs → W p l e { frames := 2, cells := 0, slots := 0, locals := 46 } s m args below meth c H locs 0 0 (MQ below (QI g s.heap.size q.1 (mc, q.2)) args s 0 0 (AA g s.heap.size)) (F0 m 48 ls []) := by
        intro a1 a2 a3 a4 M hF H locs ls hl hP hS
        unfold F10_readsSayings_b48 at hF
        refine lv_iconst (v := (0 : Int32)) hx hb dX10_readsSayings_48 ic_0 ?_
        exact hb49 _ _ _ _ _ _ hF _ _ _ (lv_sub hl [0, 1, 2, 3, 4] rfl) hP hS
      intro a1 a2 a3 M hF H locs ls hl hP hS
      have hF : F10_readsSayings_p16 (F10_readsSayings_h16 kx85 kx174 n) kx85 kx174 a1 a2 a3 M = some q := hF
      rw [hkh] at hF
      unfold F10_readsSayings_p16 at hF
      refine lv_iload_n hx hb dX10_readsSayings_16 rfl (lv_at hl 3 rfl) ?_
      refine lv_iload_n hx hb dX10_readsSayings_17 rfl (lv_at hl 1 rfl) ?_
      refine lv_icmp_ge (tgt := 174) hx hb dX10_readsSayings_18 rfl (fun hc => ?_) (fun hc => ?_)
      · have hF := (if_pos hc).symm.trans hF
        exact hx174 _ _ _ hF _ _ _ (lv_sub hl [0, 1, 2] rfl) hP hS
      · have hF := (if_neg hc).symm.trans hF
        refine lv_aload_n hx hb dX10_readsSayings_21 rfl (lv_at hl 0 rfl) ?_
        refine gf10_5 Z hP wd_6_8 dX10_readsSayings_22 ?_
        refine lv_bipush (v := (64 : Int32)) hx hb dX10_readsSayings_25 bp_64 ?_
        refine lv_iload_n hx hb dX10_readsSayings_27 rfl (lv_at hl 3 rfl) ?_
        refine lv_iadd hx hb dX10_readsSayings_28 ?_
        obtain ⟨hi11, hF⟩ := ck_ok hF
        refine rM_ld Z hP 128 5 (by decide +kernel) hi11 dX10_readsSayings_29 ?_
        refine lv_istore (lv' := [(4, .int (M 5 ((64 : Int32) + a3).toNatClampNeg)), (0, .ref (g.1 108)), (1, .int a1), (2, .int a2), (3, .int a3)]) hx hb dX10_readsSayings_30 hl (Nat.le_of_ble_eq_true rfl) rfl (fun ls hl => ?_)
        refine lv_iload_n hx hb dX10_readsSayings_32 rfl (lv_at hl 3 rfl) ?_
        refine lv_iconst (v := (3 : Int32)) hx hb dX10_readsSayings_33 ic_3 ?_
        refine lv_icmp_le (tgt := 48) hx hb dX10_readsSayings_34 rfl (fun hc => ?_) (fun hc => ?_)
        · have hF := (if_pos hc).symm.trans hF
          exact hb48 _ _ _ _ _ hF _ _ _ (lv_sub hl [1, 2, 3, 4, 0] rfl) hP hS
        · have hF := (if_neg hc).symm.trans hF
          refine lv_iload hx hb dX10_readsSayings_37 (lv_at hl 0 rfl) ?_
          refine lv_bipush (v := (59 : Int32)) hx hb dX10_readsSayings_39 bp_59 ?_
          refine lv_icmp_ne (tgt := 48) hx hb dX10_readsSayings_41 rfl (fun hc => ?_) (fun hc => ?_)
          · have hF := (if_neg hc).symm.trans hF
            exact hb48 _ _ _ _ _ hF _ _ _ (lv_sub hl [1, 2, 3, 4, 0] rfl) hP hS
          · have hF := (if_pos hc).symm.trans hF
            refine lv_iconst (v := (1 : Int32)) hx hb dX10_readsSayings_44 ic_1 ?_
            refine lv_goto (tgt := 49) hx hb dX10_readsSayings_45 rfl ?_
            exact hb49 _ _ _ _ _ _ hF _ _ _ (lv_sub hl [1, 2, 3, 4, 0] rfl) hP hS
  refine lv_aload_n hx hb dX10_readsSayings_0 rfl (lv_at hl 0 rfl) ?_
  refine lv_iconst (v := (0 : Int32)) hx hb dX10_readsSayings_1 ic_0 ?_
  refine pf10_9 Z hP hS wd_15_5 dX10_readsSayings_2 (fun H locs hP hS => ?_)
  refine lv_aload_n hx hb dX10_readsSayings_5 rfl (lv_at hl 0 rfl) ?_
  refine gf10_6 Z hP wd_6_9 dX10_readsSayings_6 ?_
  refine lv_iconst (v := (1 : Int32)) hx hb dX10_readsSayings_9 ic_1 ?_
  obtain ⟨M12, eM12, hF⟩ := lt_ok hF
  have hP : va_P g.2.2.1 vwCl (wL g mc M12) H := by rw [eM12]; exact hP
  refine rM_ld Z hP 2 6 (by decide +kernel) (inl (by decide)) dX10_readsSayings_10 ?_
  refine lv_istore_n (lv' := [(1, .int (M12 6 (1 : Int32).toNatClampNeg)), (0, .ref (g.1 108))]) hx hb dX10_readsSayings_11 rfl hl (Nat.le_of_ble_eq_true rfl) rfl (fun ls hl => ?_)
  refine lv_iconst (v := (0 : Int32)) hx hb dX10_readsSayings_12 ic_0 ?_
  refine lv_istore_n (lv' := [(2, .int (0 : Int32)), (1, .int (M12 6 (1 : Int32).toNatClampNeg)), (0, .ref (g.1 108))]) hx hb dX10_readsSayings_13 rfl hl (Nat.le_of_ble_eq_true rfl) rfl (fun ls hl => ?_)
  refine lv_iconst (v := (0 : Int32)) hx hb dX10_readsSayings_14 ic_0 ?_
  refine lv_istore_n (lv' := [(3, .int (0 : Int32)), (2, .int (0 : Int32)), (1, .int (M12 6 (1 : Int32).toNatClampNeg)), (0, .ref (g.1 108))]) hx hb dX10_readsSayings_15 rfl hl (Nat.le_of_ble_eq_true rfl) rfl (fun ls hl => ?_)
  exact (hL16 _ _ hb85 hb174 FU) _ _ _ _ hF _ _ _ (lv_sub hl [3, 2, 1, 0] rfl) hP hS
theorem xX10_readsSayings {p : Program} {l : Launch} {e : Env} {R : Room} {s : State} {m : MethodId} {args : Array Value} {below : List Frame} {meth : Method} {c : Code} {H : Heap} {locs : List Loc} {Q : State → Prop} {cc : ByteArray} {nL : Nat} {own : String} {g : GG} {pc index : Nat} {ls : Array Slot} {rest : List Value} {mc mm : Mem} (Z : ZZ p s m args c cc nL own g) (hP : va_P g.2.2.1 vwCl (wL g mc mm) H) (hS : va_S (AA g s.heap.size) s.heap H locs) {q : Int32 × Mem} (hq : F10_readsSayings mm = some q) (hlk : Cond.methodLink own index yX10_readsSayings ∈ wsL_law) (hsz : ls.size = nL) (hro : (rest.map fun v => v.category).sum ≤ 8) (hR : 2 + 1 ≤ R.frames ∧ 8 + (7 + 11) + 46 ≤ R.locals) (hdg : decode cc pc = .ok (.invokevirtual index, 3)) (kk : ∀ (H : Heap) (locs : List Loc), va_P g.2.2.1 vwCl (wL g mc q.2) H → va_S (AA g s.heap.size) s.heap H locs → W p l e R s m args below meth c H locs 0 0 Q (F0 m (pc + 3) ls (.int q.1 :: rest))) : W p l e R s m args below meth c H locs 0 0 Q (F0 m pc ls (.ref (g.1 108) :: rest)) :=
  x_VI Z hP hS (kX10_readsSayings l g mc mm q hq) (mO) (ci := 10) (by decide) rfl rfl mf_X10_readsSayings mv_X10_readsSayings hlk rfl rfl hsz hro hR hdg kk

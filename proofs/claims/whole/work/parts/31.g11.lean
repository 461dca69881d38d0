theorem dX9_iron_0 : decode cX9_iron 0 = .ok (.iload_n 1, 1) := by decide +kernel
theorem dX9_iron_1 : decode cX9_iron 1 = .ok (.iconst 2, 1) := by decide +kernel
theorem dX9_iron_2 : decode cX9_iron 2 = .ok (.invokestatic 101, 3) := by decide +kernel
theorem dX9_iron_5 : decode cX9_iron 5 = .ok (.ifCond .ne 6, 3) := by decide +kernel
theorem dX9_iron_8 : decode cX9_iron 8 = .ok (.bipush (-2), 2) := by decide +kernel
theorem dX9_iron_10 : decode cX9_iron 10 = .ok (.ireturn, 1) := by decide +kernel
theorem dX9_iron_11 : decode cX9_iron 11 = .ok (.aload_n 0, 1) := by decide +kernel
theorem dX9_iron_12 : decode cX9_iron 12 = .ok (.invokevirtual 221, 3) := by decide +kernel
theorem dX9_iron_15 : decode cX9_iron 15 = .ok (.istore_n 2, 1) := by decide +kernel
theorem dX9_iron_16 : decode cX9_iron 16 = .ok (.iconst (-1), 1) := by decide +kernel
theorem dX9_iron_17 : decode cX9_iron 17 = .ok (.istore_n 3, 1) := by decide +kernel
theorem dX9_iron_18 : decode cX9_iron 18 = .ok (.iconst (-1), 1) := by decide +kernel
theorem dX9_iron_19 : decode cX9_iron 19 = .ok (.istore 4, 2) := by decide +kernel
theorem dX9_iron_21 : decode cX9_iron 21 = .ok (.iconst 0, 1) := by decide +kernel
theorem dX9_iron_22 : decode cX9_iron 22 = .ok (.istore 5, 2) := by decide +kernel
theorem dX9_iron_24 : decode cX9_iron 24 = .ok (.iload 5, 2) := by decide +kernel
theorem dX9_iron_26 : decode cX9_iron 26 = .ok (.aload_n 0, 1) := by decide +kernel
theorem dX9_iron_27 : decode cX9_iron 27 = .ok (.getfield 28, 3) := by decide +kernel
theorem dX9_iron_30 : decode cX9_iron 30 = .ok (.getfield 134, 3) := by decide +kernel
theorem dX9_iron_33 : decode cX9_iron 33 = .ok (.if_icmp .ge 94, 3) := by decide +kernel
theorem dX9_iron_36 : decode cX9_iron 36 = .ok (.aload_n 0, 1) := by decide +kernel
theorem dX9_iron_37 : decode cX9_iron 37 = .ok (.getfield 80, 3) := by decide +kernel
theorem dX9_iron_40 : decode cX9_iron 40 = .ok (.aload_n 0, 1) := by decide +kernel
theorem dX9_iron_41 : decode cX9_iron 41 = .ok (.getfield 21, 3) := by decide +kernel
theorem dX9_iron_44 : decode cX9_iron 44 = .ok (.aload_n 0, 1) := by decide +kernel
theorem dX9_iron_45 : decode cX9_iron 45 = .ok (.getfield 56, 3) := by decide +kernel
theorem dX9_iron_48 : decode cX9_iron 48 = .ok (.aload_n 0, 1) := by decide +kernel
theorem dX9_iron_49 : decode cX9_iron 49 = .ok (.getfield 28, 3) := by decide +kernel
theorem dX9_iron_52 : decode cX9_iron 52 = .ok (.iload 5, 2) := by decide +kernel
theorem dX9_iron_54 : decode cX9_iron 54 = .ok (.aload_n 0, 1) := by decide +kernel
theorem dX9_iron_55 : decode cX9_iron 55 = .ok (.getfield 28, 3) := by decide +kernel
theorem dX9_iron_58 : decode cX9_iron 58 = .ok (.getfield 138, 3) := by decide +kernel
theorem dX9_iron_61 : decode cX9_iron 61 = .ok (.iload 5, 2) := by decide +kernel
theorem dX9_iron_63 : decode cX9_iron 63 = .ok (.iaload, 1) := by decide +kernel
theorem dX9_iron_64 : decode cX9_iron 64 = .ok (.iconst 0, 1) := by decide +kernel
theorem dX9_iron_65 : decode cX9_iron 65 = .ok (.invokevirtual 198, 3) := by decide +kernel
theorem dX9_iron_68 : decode cX9_iron 68 = .ok (.iload_n 2, 1) := by decide +kernel
theorem dX9_iron_69 : decode cX9_iron 69 = .ok (.iconst 1, 1) := by decide +kernel
theorem dX9_iron_70 : decode cX9_iron 70 = .ok (.iload 5, 2) := by decide +kernel
theorem dX9_iron_72 : decode cX9_iron 72 = .ok (.ishl, 1) := by decide +kernel
theorem dX9_iron_73 : decode cX9_iron 73 = .ok (.iconst (-1), 1) := by decide +kernel
theorem dX9_iron_74 : decode cX9_iron 74 = .ok (.ixor, 1) := by decide +kernel
theorem dX9_iron_75 : decode cX9_iron 75 = .ok (.iand, 1) := by decide +kernel
theorem dX9_iron_76 : decode cX9_iron 76 = .ok (.invokestatic 225, 3) := by decide +kernel
theorem dX9_iron_79 : decode cX9_iron 79 = .ok (.istore 6, 2) := by decide +kernel
theorem dX9_iron_81 : decode cX9_iron 81 = .ok (.iload 6, 2) := by decide +kernel
theorem dX9_iron_83 : decode cX9_iron 83 = .ok (.aload_n 0, 1) := by decide +kernel
theorem dX9_iron_84 : decode cX9_iron 84 = .ok (.getfield 80, 3) := by decide +kernel
theorem dX9_iron_87 : decode cX9_iron 87 = .ok (.invokevirtual 192, 3) := by decide +kernel
theorem dX9_iron_90 : decode cX9_iron 90 = .ok (.ifCond .eq 7, 3) := by decide +kernel
theorem dX9_iron_93 : decode cX9_iron 93 = .ok (.iconst 1, 1) := by decide +kernel
theorem dX9_iron_94 : decode cX9_iron 94 = .ok (.goto 4, 3) := by decide +kernel
theorem dX9_iron_97 : decode cX9_iron 97 = .ok (.iconst 0, 1) := by decide +kernel
theorem dX9_iron_98 : decode cX9_iron 98 = .ok (.iadd, 1) := by decide +kernel
theorem dX9_iron_99 : decode cX9_iron 99 = .ok (.istore 7, 2) := by decide +kernel
theorem dX9_iron_101 : decode cX9_iron 101 = .ok (.iload 4, 2) := by decide +kernel
theorem dX9_iron_103 : decode cX9_iron 103 = .ok (.iconst (-1), 1) := by decide +kernel
theorem dX9_iron_104 : decode cX9_iron 104 = .ok (.if_icmp .eq 10, 3) := by decide +kernel
theorem dX9_iron_107 : decode cX9_iron 107 = .ok (.iload 7, 2) := by decide +kernel
theorem dX9_iron_109 : decode cX9_iron 109 = .ok (.iload 4, 2) := by decide +kernel
theorem dX9_iron_111 : decode cX9_iron 111 = .ok (.if_icmp .ge 10, 3) := by decide +kernel
theorem dX9_iron_114 : decode cX9_iron 114 = .ok (.iload 5, 2) := by decide +kernel
theorem dX9_iron_116 : decode cX9_iron 116 = .ok (.istore_n 3, 1) := by decide +kernel
theorem dX9_iron_117 : decode cX9_iron 117 = .ok (.iload 7, 2) := by decide +kernel
theorem dX9_iron_119 : decode cX9_iron 119 = .ok (.istore 4, 2) := by decide +kernel
theorem dX9_iron_121 : decode cX9_iron 121 = .ok (.iinc 5 1, 3) := by decide +kernel
theorem dX9_iron_124 : decode cX9_iron 124 = .ok (.goto (-100), 3) := by decide +kernel
theorem dX9_iron_127 : decode cX9_iron 127 = .ok (.iload_n 1, 1) := by decide +kernel
theorem dX9_iron_128 : decode cX9_iron 128 = .ok (.ifCond .ne 7, 3) := by decide +kernel
theorem dX9_iron_131 : decode cX9_iron 131 = .ok (.iload_n 3, 1) := by decide +kernel
theorem dX9_iron_132 : decode cX9_iron 132 = .ok (.goto 5, 3) := by decide +kernel
theorem dX9_iron_135 : decode cX9_iron 135 = .ok (.iload 4, 2) := by decide +kernel
theorem dX9_iron_137 : decode cX9_iron 137 = .ok (.ireturn, 1) := by decide +kernel
noncomputable def F9_iron_b127 (v1 : Int32) (a3 : Int32) (a4 : Int32) (M : Mem) : Option (Int32 × Mem) :=
  (if v1 = (0 : Int32) then some (a3, M) else some (a4, M))
noncomputable def F9_iron_b121 (kh : Int32 → Int32 → Int32 → Int32 → Mem → Option (Int32 × Mem)) (kx127 : Int32 → Int32 → Mem → Option (Int32 × Mem)) (v1 : Int32) (a2 : Int32) (a3 : Int32) (a4 : Int32) (a5 : Int32) (M : Mem) : Option (Int32 × Mem) :=
  kh a2 a3 a4 (a5 + (1 : Int32)) M
noncomputable def F9_iron_b114 (kh : Int32 → Int32 → Int32 → Int32 → Mem → Option (Int32 × Mem)) (kx127 : Int32 → Int32 → Mem → Option (Int32 × Mem)) (v1 : Int32) (a2 : Int32) (a5 : Int32) (a7 : Int32) (M : Mem) : Option (Int32 × Mem) :=
  (F9_iron_b121 kh kx127 v1) a2 a5 a7 a5 M
noncomputable def F9_iron_b98 (kh : Int32 → Int32 → Int32 → Int32 → Mem → Option (Int32 × Mem)) (kx127 : Int32 → Int32 → Mem → Option (Int32 × Mem)) (v1 : Int32) (a2 : Int32) (a3 : Int32) (a4 : Int32) (a5 : Int32) (s0 : Int32) (s1 : Int32) (M : Mem) : Option (Int32 × Mem) :=
  (if a4 = (-1 : Int32) then (F9_iron_b114 kh kx127 v1) a2 a5 (s0 + s1) M else (if a4 ≤ (s0 + s1) then (F9_iron_b121 kh kx127 v1) a2 a3 a4 a5 M else (F9_iron_b114 kh kx127 v1) a2 a5 (s0 + s1) M))
noncomputable def F9_iron_p24 (kh : Int32 → Int32 → Int32 → Int32 → Mem → Option (Int32 × Mem)) (kx127 : Int32 → Int32 → Mem → Option (Int32 × Mem)) (v1 : Int32) (a2 : Int32) (a3 : Int32) (a4 : Int32) (a5 : Int32) (M : Mem) : Option (Int32 × Mem) :=
  (if (M 11 5) ≤ a5 then kx127 a3 a4 M else (ck a5 8 ((F4_follow 92 6 34 11 a5 (M 13 a5.toNatClampNeg) (0 : Int32) M).bind (fun q8 => ((F6_bitCount_0f7a4 (a2 &&& (((1 : Int32) <<< (a5 &&& (31 : Int32))) ^^^ (-1 : Int32)))).bind (fun q9 => ((F4_isGone 92 q8).bind (fun q10 => (if q10 = (0 : Int32) then (F9_iron_b98 kh kx127 v1) a2 a3 a4 a5 q9 (0 : Int32) q8 else (F9_iron_b98 kh kx127 v1) a2 a3 a4 a5 q9 (1 : Int32) q8)))))))))
noncomputable def F9_iron_h24 (kx127 : Int32 → Int32 → Mem → Option (Int32 × Mem)) (v1 : Int32) : Nat → Int32 → Int32 → Int32 → Int32 → Mem → Option (Int32 × Mem)
  | 0, _, _, _, _, _ => none
  | n + 1, a2, a3, a4, a5, M => F9_iron_p24 (F9_iron_h24 kx127 v1 n) kx127 v1 a2 a3 a4 a5 M
noncomputable def F9_iron (v1 : Int32) (mc : Mem) : Option (Int32 × Mem) :=
  ((F9_in v1 (2 : Int32)).bind (fun q11 => (if q11 = (0 : Int32) then some ((-2 : Int32), mc) else ((F9_gone mc).bind (fun q12 => ((F9_iron_h24 (F9_iron_b127 v1) v1 FU) q12.1 (-1 : Int32) (-1 : Int32) (0 : Int32) q12.2))))))
set_option maxHeartbeats 4000000 in
set_option maxRecDepth 100000 in
theorem kX9_iron (l : Launch) (g : GG) (v1 : Int32) (mc mm : Mem) (q : Int32 × Mem) (hF : F9_iron v1 mc = some q) : KI l yX9_iron cX9_iron 8 .int 4 99 g [.ref (g.1 0), .int v1] mc mm q.1 (q.2, mm) := by
  intro sz
  refine x_start (Qc := fun z => QI g z q.1 (q.2, mm)) (by decide +kernel) (Nat.le_of_ble_eq_true rfl) ?_ sz
  intro p e s m args below meth c ls Z hr hlk hP hl
  have hx := Z.1.1
  have hb := Z.1.2.1
  have hown := Z.1.2.2.2.1
  have hts := Z.1.2.2.2.2
  have hS : va_S (AA g s.heap.size) s.heap s.heap [] := va_S.rf
  have hl : lv_has ls 8 [(0, .ref (g.1 0)), (1, .int v1)] := hl
  unfold F9_iron at hF
  have hb127 : ∀ (a3 : Int32) (a4 : Int32) (M : Mem), F9_iron_b127 v1 a3 a4 M = some q → ∀ (H : Heap) (locs : List Loc) (ls : Array Slot), lv_has ls 8 [(1, .int v1), (3, .int a3), (4, .int a4)] → va_P g.2.2.1 vwCl (wL g M mm) H → va_S (AA g s.heap.size) s.heap H locs → W p l e { frames := 4, cells := 0, slots := 0, locals := 99 } s m args below meth c H locs 0 0 (MQ below (QI g s.heap.size q.1 (q.2, mm)) args s 0 0 (AA g s.heap.size)) (F0 m 127 ls []) := by
    intro a3 a4 M hF H locs ls hl hP hS
    unfold F9_iron_b127 at hF
    refine lv_iload_n hx hb dX9_iron_127 rfl (lv_at hl 0 rfl) ?_
    refine lv_if_ne (tgt := 135) hx hb dX9_iron_128 rfl (fun hc => ?_) (fun hc => ?_)
    · have hF := (if_neg hc).symm.trans hF
      refine lv_iload hx hb dX9_iron_135 (lv_at hl 2 rfl) ?_
      exact ret_IWC Z hr hlk hP hS hF dX9_iron_137
    · have hF := (if_pos hc).symm.trans hF
      refine lv_iload_n hx hb dX9_iron_131 rfl (lv_at hl 1 rfl) ?_
      refine lv_goto (tgt := 137) hx hb dX9_iron_132 rfl ?_
      exact ret_IWC Z hr hlk hP hS hF dX9_iron_137
  have hL24 : ∀ (kx127 : Int32 → Int32 → Mem → Option (Int32 × Mem)), (∀ (a3 : Int32) (a4 : Int32) (M : Mem), kx127 a3 a4 M = some q → ∀ (H : Heap) (locs : List Loc) (ls : Array Slot), lv_has ls 8 [(1, .int v1), (3, .int a3), (4, .int a4)] → va_P g.2.2.1 vwCl (wL g M mm) H → va_S (AA g s.heap.size) s.heap H locs → W p l e { frames := 4, cells := 0, slots := 0, locals := 99 } s m args below meth c H locs 0 0 (MQ below (QI g s.heap.size q.1 (q.2, mm)) args s 0 0 (AA g s.heap.size)) (F0 m 127 ls [])) → ∀ n : Nat, ∀ (a2 : Int32) (a3 : Int32) (a4 : Int32) (a5 : Int32) (M : Mem), F9_iron_h24 kx127 v1 n a2 a3 a4 a5 M = some q → ∀ (H : Heap) (locs : List Loc) (ls : Array Slot), lv_has ls 8 [(0, .ref (g.1 0)), (1, .int v1), (2, .int a2), (3, .int a3), (4, .int a4), (5, .int a5)] → va_P g.2.2.1 vwCl (wL g M mm) H → va_S (AA g s.heap.size) s.heap H locs → W p l e { frames := 4, cells := 0, slots := 0, locals := 99 } s m args below meth c H locs 0 0 (MQ below (QI g s.heap.size q.1 (q.2, mm)) args s 0 0 (AA g s.heap.size)) (F0 m 24 ls []) := by
    intro kx127 hx127 n
    induction n with
    | zero => intro a2 a3 a4 a5 M hF H locs ls hl hP hS; exact absurd hF (fun z => nomatch (show (none : Option _) = some q from z))
    | succ n ih =>
      generalize hkh : F9_iron_h24 kx127 v1 n = kh at ih
      have hb121 : ∀ (a2 : Int32) (a3 : Int32) (a4 : Int32) (a5 : Int32) (M : Mem), F9_iron_b121 kh kx127 v1 a2 a3 a4 a5 M = some q → ∀ (H : Heap) (locs : List Loc) (ls : Array Slot), lv_has ls 8 [(0, .ref (g.1 0)), (1, .int v1), (2, .int a2), (3, .int a3), (4, .int a4), (5, .int a5)] → va_P g.2.2.1 vwCl (wL g M mm) H → va_S (AA g s.heap.size) s.heap H locs → W p l e { frames := 4, cells := 0, slots := 0, locals := 99 } s m args below meth c H locs 0 0 (MQ below (QI g s.heap.size q.1 (q.2, mm)) args s 0 0 (AA g s.heap.size)) (F0 m 121 ls []) := by
        intro a2 a3 a4 a5 M hF H locs ls hl hP hS
        unfold F9_iron_b121 at hF
        refine lv_iinc (lv' := [(5, .int (a5 + (1 : Int32))), (0, .ref (g.1 0)), (1, .int v1), (2, .int a2), (3, .int a3), (4, .int a4)]) (v := (a5 + (1 : Int32))) hx hb dX9_iron_121 hl (k := 5) rfl (io_1 _) (Nat.le_of_ble_eq_true rfl) rfl (fun ls hl => ?_)
        refine lv_goto (tgt := 24) hx hb dX9_iron_124 rfl ?_
        exact ih _ _ _ _ _ hF _ _ _ (lv_sub hl [1, 2, 3, 4, 5, 0] rfl) hP hS
      have hb114 : ∀ (a2 : Int32) (a5 : Int32) (a7 : Int32) (M : Mem), F9_iron_b114 kh kx127 v1 a2 a5 a7 M = some q → ∀ (H : Heap) (locs : List Loc) (ls : Array Slot), lv_has ls 8 [(0, .ref (g.1 0)), (1, .int v1), (2, .int a2), (5, .int a5), (7, .int a7)] → va_P g.2.2.1 vwCl (wL g M mm) H → va_S (AA g s.heap.size) s.heap H locs → W p l e { frames := 4, cells := 0, slots := 0, locals := 99 } s m args below meth c H locs 0 0 (MQ below (QI g s.heap.size q.1 (q.2, mm)) args s 0 0 (AA g s.heap.size)) (F0 m 114 ls []) := by
        intro a2 a5 a7 M hF H locs ls hl hP hS
        unfold F9_iron_b114 at hF
        refine lv_iload hx hb dX9_iron_114 (lv_at hl 3 rfl) ?_
        refine lv_istore_n (lv' := [(3, .int a5), (0, .ref (g.1 0)), (1, .int v1), (2, .int a2), (5, .int a5), (7, .int a7)]) hx hb dX9_iron_116 rfl hl (Nat.le_of_ble_eq_true rfl) rfl (fun ls hl => ?_)
        refine lv_iload hx hb dX9_iron_117 (lv_at hl 5 rfl) ?_
        refine lv_istore (lv' := [(4, .int a7), (3, .int a5), (0, .ref (g.1 0)), (1, .int v1), (2, .int a2), (5, .int a5), (7, .int a7)]) hx hb dX9_iron_119 hl (Nat.le_of_ble_eq_true rfl) rfl (fun ls hl => ?_)
        exact hb121 _ _ _ _ _ hF _ _ _ (lv_sub hl [2, 3, 4, 1, 0, 5] rfl) hP hS
      have hb98 : ∀ (a2 : Int32) (a3 : Int32) (a4 : Int32) (a5 : Int32) (s0 : Int32) (s1 : Int32) (M : Mem), F9_iron_b98 kh kx127 v1 a2 a3 a4 a5 s0 s1 M = some q → ∀ (H : Heap) (locs : List Loc) (ls : Array Slot), lv_has ls 8 [(0, .ref (g.1 0)), (1, .int v1), (2, .int a2), (3, .int a3), (4, .int a4), (5, .int a5)] → va_P g.2.2.1 vwCl (wL g M mm) H → va_S (AA g s.heap.size) s.heap H locs → W p l e { frames := 4, cells := 0, slots := 0, locals := 99 } s m args below meth c H locs 0 0 (MQ below (QI g s.heap.size q.1 (q.2, mm)) args s 0 0 (AA g s.heap.size)) (F0 m 98 ls [.int s1, .int s0]) := by
        intro a2 a3 a4 a5 s0 s1 M hF H locs ls hl hP hS
        unfold F9_iron_b98 at hF
        refine lv_iadd hx hb dX9_iron_98 ?_
        refine lv_istore (lv' := [(7, .int (s0 + s1)), (0, .ref (g.1 0)), (1, .int v1), (2, .int a2), (3, .int a3), (4, .int a4), (5, .int a5)]) hx hb dX9_iron_99 hl (Nat.le_of_ble_eq_true rfl) rfl (fun ls hl => ?_)
        refine lv_iload hx hb dX9_iron_101 (lv_at hl 5 rfl) ?_
        refine lv_iconst (v := (-1 : Int32)) hx hb dX9_iron_103 ic_m1 ?_
        refine lv_icmp_eq (tgt := 114) hx hb dX9_iron_104 rfl (fun hc => ?_) (fun hc => ?_)
        · have hF := (if_pos hc).symm.trans hF
          exact hb114 _ _ _ _ hF _ _ _ (lv_sub hl [1, 2, 3, 6, 0] rfl) hP hS
        · have hF := (if_neg hc).symm.trans hF
          refine lv_iload hx hb dX9_iron_107 (lv_at hl 0 rfl) ?_
          refine lv_iload hx hb dX9_iron_109 (lv_at hl 5 rfl) ?_
          refine lv_icmp_ge (tgt := 121) hx hb dX9_iron_111 rfl (fun hc => ?_) (fun hc => ?_)
          · have hF := (if_pos hc).symm.trans hF
            exact hb121 _ _ _ _ _ hF _ _ _ (lv_sub hl [1, 2, 3, 4, 5, 6] rfl) hP hS
          · have hF := (if_neg hc).symm.trans hF
            exact hb114 _ _ _ _ hF _ _ _ (lv_sub hl [1, 2, 3, 6, 0] rfl) hP hS
      intro a2 a3 a4 a5 M hF H locs ls hl hP hS
      have hF : F9_iron_p24 (F9_iron_h24 kx127 v1 n) kx127 v1 a2 a3 a4 a5 M = some q := hF
      rw [hkh] at hF
      unfold F9_iron_p24 at hF
      refine lv_iload hx hb dX9_iron_24 (lv_at hl 5 rfl) ?_
      refine lv_aload_n hx hb dX9_iron_26 rfl (lv_at hl 0 rfl) ?_
      refine gf9_2 Z hP wd_1_23 dX9_iron_27 ?_
      refine gf5_5N Z hP ck_11 nf_7 dX9_iron_30 ?_
      refine lv_icmp_ge (tgt := 127) hx hb dX9_iron_33 rfl (fun hc => ?_) (fun hc => ?_)
      · have hF := (if_pos hc).symm.trans hF
        exact hx127 _ _ _ hF _ _ _ (lv_sub hl [1, 3, 4] rfl) hP hS
      · have hF := (if_neg hc).symm.trans hF
        refine lv_aload_n hx hb dX9_iron_36 rfl (lv_at hl 0 rfl) ?_
        refine gf9_13 Z hP wd_3_0 dX9_iron_37 ?_
        refine lv_aload_n hx hb dX9_iron_40 rfl (lv_at hl 0 rfl) ?_
        refine gf9_1 Z hP wd_1_19 dX9_iron_41 ?_
        refine lv_aload_n hx hb dX9_iron_44 rfl (lv_at hl 0 rfl) ?_
        refine gf9_7 Z hP wd_2_15 dX9_iron_45 ?_
        refine lv_aload_n hx hb dX9_iron_48 rfl (lv_at hl 0 rfl) ?_
        refine gf9_2 Z hP wd_1_23 dX9_iron_49 ?_
        refine lv_iload hx hb dX9_iron_52 (lv_at hl 5 rfl) ?_
        refine lv_aload_n hx hb dX9_iron_54 rfl (lv_at hl 0 rfl) ?_
        refine gf9_2 Z hP wd_1_23 dX9_iron_55 ?_
        refine gf5_1N Z hP ck_11 nf_9 dX9_iron_58 ?_
        refine lv_iload hx hb dX9_iron_61 (lv_at hl 5 rfl) ?_
        obtain ⟨hi7, hF⟩ := ck_ok hF
        refine ra_ld Z hP (ia_5_1 ck_11) hi7 dX9_iron_63 ?_
        refine lv_iconst (v := (0 : Int32)) hx hb dX9_iron_64 ic_0 ?_
        obtain ⟨q8, hq8, hF⟩ := bd_ok hF
        refine xX4_follow Z hP hS ck_92 ck_6 ck_34 ck_11 hq8 wd_20_22 hl.1 (Nat.le_of_ble_eq_true rfl) ⟨Nat.le_of_ble_eq_true rfl, Nat.le_of_ble_eq_true rfl⟩ dX9_iron_65 (fun H locs hP hS => ?_)
        refine lv_iload_n hx hb dX9_iron_68 rfl (lv_at hl 2 rfl) ?_
        refine lv_iconst (v := (1 : Int32)) hx hb dX9_iron_69 ic_1 ?_
        refine lv_iload hx hb dX9_iron_70 (lv_at hl 5 rfl) ?_
        refine lv_ishl hx hb dX9_iron_72 ?_
        refine lv_iconst (v := (-1 : Int32)) hx hb dX9_iron_73 ic_m1 ?_
        refine lv_ixor hx hb dX9_iron_74 ?_
        refine lv_iand hx hb dX9_iron_75 ?_
        obtain ⟨q9, hq9, hF⟩ := bd_ok hF
        refine xJ6_bitCount_0f7a4 Z hP hS hq9 wd_31_6 hl.1 (Nat.le_of_ble_eq_true rfl) ⟨Nat.le_of_ble_eq_true rfl, Nat.le_of_ble_eq_true rfl⟩ dX9_iron_76 (fun H locs hP hS => ?_)
        refine lv_istore (lv' := [(6, .int q9), (0, .ref (g.1 0)), (1, .int v1), (2, .int a2), (3, .int a3), (4, .int a4), (5, .int a5)]) hx hb dX9_iron_79 hl (Nat.le_of_ble_eq_true rfl) rfl (fun ls hl => ?_)
        refine lv_iload hx hb dX9_iron_81 (lv_at hl 0 rfl) ?_
        refine lv_aload_n hx hb dX9_iron_83 rfl (lv_at hl 1 rfl) ?_
        refine gf9_13 Z hP wd_3_0 dX9_iron_84 ?_
        obtain ⟨q10, hq10, hF⟩ := bd_ok hF
        refine xX4_isGone Z hP hS ck_92 hq10 wd_26_10 hl.1 (Nat.le_of_ble_eq_true rfl) ⟨Nat.le_of_ble_eq_true rfl, Nat.le_of_ble_eq_true rfl⟩ dX9_iron_87 (fun H locs hP hS => ?_)
        refine lv_if_eq (tgt := 97) hx hb dX9_iron_90 rfl (fun hc => ?_) (fun hc => ?_)
        · have hF := (if_pos hc).symm.trans hF
          refine lv_iconst (v := (0 : Int32)) hx hb dX9_iron_97 ic_0 ?_
          exact hb98 _ _ _ _ _ _ _ hF _ _ _ (lv_sub hl [1, 2, 3, 4, 5, 6] rfl) hP hS
        · have hF := (if_neg hc).symm.trans hF
          refine lv_iconst (v := (1 : Int32)) hx hb dX9_iron_93 ic_1 ?_
          refine lv_goto (tgt := 98) hx hb dX9_iron_94 rfl ?_
          exact hb98 _ _ _ _ _ _ _ hF _ _ _ (lv_sub hl [1, 2, 3, 4, 5, 6] rfl) hP hS
  refine lv_iload_n hx hb dX9_iron_0 rfl (lv_at hl 1 rfl) ?_
  refine lv_iconst (v := (2 : Int32)) hx hb dX9_iron_1 ic_2 ?_
  obtain ⟨q11, hq11, hF⟩ := bd_ok hF
  refine xX9_in Z hP hS hq11 wd_7_7 hl.1 (Nat.le_of_ble_eq_true rfl) ⟨Nat.le_of_ble_eq_true rfl, Nat.le_of_ble_eq_true rfl⟩ dX9_iron_2 (fun H locs hP hS => ?_)
  refine lv_if_ne (tgt := 11) hx hb dX9_iron_5 rfl (fun hc => ?_) (fun hc => ?_)
  · have hF := (if_neg hc).symm.trans hF
    refine lv_aload_n hx hb dX9_iron_11 rfl (lv_at hl 0 rfl) ?_
    obtain ⟨q12, hq12, hF⟩ := bd_ok hF
    refine xX9_gone Z hP hS hq12 wd_31_5 hl.1 (Nat.le_of_ble_eq_true rfl) ⟨Nat.le_of_ble_eq_true rfl, Nat.le_of_ble_eq_true rfl⟩ dX9_iron_12 (fun H locs hP hS => ?_)
    refine lv_istore_n (lv' := [(2, .int q12.1), (0, .ref (g.1 0)), (1, .int v1)]) hx hb dX9_iron_15 rfl hl (Nat.le_of_ble_eq_true rfl) rfl (fun ls hl => ?_)
    refine lv_iconst (v := (-1 : Int32)) hx hb dX9_iron_16 ic_m1 ?_
    refine lv_istore_n (lv' := [(3, .int (-1 : Int32)), (2, .int q12.1), (0, .ref (g.1 0)), (1, .int v1)]) hx hb dX9_iron_17 rfl hl (Nat.le_of_ble_eq_true rfl) rfl (fun ls hl => ?_)
    refine lv_iconst (v := (-1 : Int32)) hx hb dX9_iron_18 ic_m1 ?_
    refine lv_istore (lv' := [(4, .int (-1 : Int32)), (3, .int (-1 : Int32)), (2, .int q12.1), (0, .ref (g.1 0)), (1, .int v1)]) hx hb dX9_iron_19 hl (Nat.le_of_ble_eq_true rfl) rfl (fun ls hl => ?_)
    refine lv_iconst (v := (0 : Int32)) hx hb dX9_iron_21 ic_0 ?_
    refine lv_istore (lv' := [(5, .int (0 : Int32)), (4, .int (-1 : Int32)), (3, .int (-1 : Int32)), (2, .int q12.1), (0, .ref (g.1 0)), (1, .int v1)]) hx hb dX9_iron_22 hl (Nat.le_of_ble_eq_true rfl) rfl (fun ls hl => ?_)
    exact (hL24 _ hb127 FU) _ _ _ _ _ hF _ _ _ (lv_sub hl [4, 5, 3, 2, 1, 0] rfl) hP hS
  · have hF := (if_pos hc).symm.trans hF
    refine lv_bipush (v := (-2 : Int32)) hx hb dX9_iron_8 bp_m2 ?_
    exact ret_IWC Z hr hlk hP hS hF dX9_iron_10
theorem xX9_iron {p : Program} {l : Launch} {e : Env} {R : Room} {s : State} {m : MethodId} {args : Array Value} {below : List Frame} {meth : Method} {c : Code} {H : Heap} {locs : List Loc} {Q : State → Prop} {cc : ByteArray} {nL : Nat} {own : String} {g : GG} {pc index : Nat} {ls : Array Slot} {rest : List Value} {mc mm : Mem} (Z : ZZ p s m args c cc nL own g) (hP : va_P g.2.2.1 vwCl (wL g mc mm) H) (hS : va_S (AA g s.heap.size) s.heap H locs) {v1 : Int32} {q : Int32 × Mem} (hq : F9_iron v1 mc = some q) (hlk : Cond.methodLink own index yX9_iron ∈ wsL_law) (hsz : ls.size = nL) (hro : (rest.map fun v => v.category).sum ≤ 8) (hR : 4 + 1 ≤ R.frames ∧ 8 + (8 + 11) + 99 ≤ R.locals) (hdg : decode cc pc = .ok (.invokevirtual index, 3)) (kk : ∀ (H : Heap) (locs : List Loc), va_P g.2.2.1 vwCl (wL g q.2 mm) H → va_S (AA g s.heap.size) s.heap H locs → W p l e R s m args below meth c H locs 0 0 Q (F0 m (pc + 3) ls (.int q.1 :: rest))) : W p l e R s m args below meth c H locs 0 0 Q (F0 m pc ls (.int v1 :: .ref (g.1 0) :: rest)) :=
  x_VI Z hP hS (kX9_iron l g v1 mc mm q hq) (isO_w ck_0) (ci := 9) (by decide) rfl rfl mf_X9_iron mv_X9_iron hlk rfl rfl hsz hro hR hdg kk
theorem dX9_draw_0 : decode cX9_draw 0 = .ok (.iload_n 1, 1) := by decide +kernel
theorem dX9_draw_1 : decode cX9_draw 1 = .ok (.bipush 40, 2) := by decide +kernel
theorem dX9_draw_3 : decode cX9_draw 3 = .ok (.invokestatic 101, 3) := by decide +kernel
theorem dX9_draw_6 : decode cX9_draw 6 = .ok (.ifCond .eq 20, 3) := by decide +kernel
theorem dX9_draw_9 : decode cX9_draw 9 = .ok (.iload_n 2, 1) := by decide +kernel
theorem dX9_draw_10 : decode cX9_draw 10 = .ok (.bipush 8, 2) := by decide +kernel
theorem dX9_draw_12 : decode cX9_draw 12 = .ok (.invokestatic 101, 3) := by decide +kernel
theorem dX9_draw_15 : decode cX9_draw 15 = .ok (.ifCond .eq 11, 3) := by decide +kernel
theorem dX9_draw_18 : decode cX9_draw 18 = .ok (.iload_n 3, 1) := by decide +kernel
theorem dX9_draw_19 : decode cX9_draw 19 = .ok (.iconst 5, 1) := by decide +kernel
theorem dX9_draw_20 : decode cX9_draw 20 = .ok (.invokestatic 101, 3) := by decide +kernel
theorem dX9_draw_23 : decode cX9_draw 23 = .ok (.ifCond .ne 6, 3) := by decide +kernel
theorem dX9_draw_26 : decode cX9_draw 26 = .ok (.bipush (-2), 2) := by decide +kernel
theorem dX9_draw_28 : decode cX9_draw 28 = .ok (.ireturn, 1) := by decide +kernel
theorem dX9_draw_29 : decode cX9_draw 29 = .ok (.aload_n 0, 1) := by decide +kernel
theorem dX9_draw_30 : decode cX9_draw 30 = .ok (.getfield 42, 3) := by decide +kernel
theorem dX9_draw_33 : decode cX9_draw 33 = .ok (.iload_n 1, 1) := by decide +kernel
theorem dX9_draw_34 : decode cX9_draw 34 = .ok (.iload_n 2, 1) := by decide +kernel
theorem dX9_draw_35 : decode cX9_draw 35 = .ok (.iload_n 3, 1) := by decide +kernel
theorem dX9_draw_36 : decode cX9_draw 36 = .ok (.invokevirtual 230, 3) := by decide +kernel
theorem dX9_draw_39 : decode cX9_draw 39 = .ok (.ifCond .eq 13, 3) := by decide +kernel
theorem dX9_draw_42 : decode cX9_draw 42 = .ok (.aload_n 0, 1) := by decide +kernel
theorem dX9_draw_43 : decode cX9_draw 43 = .ok (.getfield 42, 3) := by decide +kernel
theorem dX9_draw_46 : decode cX9_draw 46 = .ok (.getfield 231, 3) := by decide +kernel
theorem dX9_draw_49 : decode cX9_draw 49 = .ok (.goto 5, 3) := by decide +kernel
theorem dX9_draw_52 : decode cX9_draw 52 = .ok (.bipush (-4), 2) := by decide +kernel
theorem dX9_draw_54 : decode cX9_draw 54 = .ok (.ireturn, 1) := by decide +kernel
noncomputable def F9_draw (v1 : Int32) (v2 : Int32) (v3 : Int32) (mc : Mem) : Option (Int32 × Mem) :=
  ((F9_in v1 (40 : Int32)).bind (fun q5 => (if q5 = (0 : Int32) then some ((-2 : Int32), mc) else ((F9_in v2 (8 : Int32)).bind (fun q6 => (if q6 = (0 : Int32) then some ((-2 : Int32), mc) else ((F9_in v3 (5 : Int32)).bind (fun q7 => (if q7 = (0 : Int32) then some ((-2 : Int32), mc) else ((F1_add 21 v1 v2 v3 mc).bind (fun q8 => (if q8.1 = (0 : Int32) then some ((-4 : Int32), q8.2) else some ((q8.2 21 3), q8.2)))))))))))))
set_option maxHeartbeats 4000000 in
set_option maxRecDepth 100000 in
theorem kX9_draw (l : Launch) (g : GG) (v1 : Int32) (v2 : Int32) (v3 : Int32) (mc mm : Mem) (q : Int32 × Mem) (hF : F9_draw v1 v2 v3 mc = some q) : KI l yX9_draw cX9_draw 4 .int 1 23 g [.ref (g.1 0), .int v1, .int v2, .int v3] mc mm q.1 (q.2, mm) := by
  intro sz
  refine x_start (Qc := fun z => QI g z q.1 (q.2, mm)) (by decide +kernel) (Nat.le_of_ble_eq_true rfl) ?_ sz
  intro p e s m args below meth c ls Z hr hlk hP hl
  have hx := Z.1.1
  have hb := Z.1.2.1
  have hown := Z.1.2.2.2.1
  have hts := Z.1.2.2.2.2
  have hS : va_S (AA g s.heap.size) s.heap s.heap [] := va_S.rf
  have hl : lv_has ls 4 [(0, .ref (g.1 0)), (1, .int v1), (2, .int v2), (3, .int v3)] := hl
  unfold F9_draw at hF
  refine lv_iload_n hx hb dX9_draw_0 rfl (lv_at hl 1 rfl) ?_
  refine lv_bipush (v := (40 : Int32)) hx hb dX9_draw_1 bp_40 ?_
  obtain ⟨q5, hq5, hF⟩ := bd_ok hF
  refine xX9_in Z hP hS hq5 wd_7_7 hl.1 (Nat.le_of_ble_eq_true rfl) ⟨Nat.le_of_ble_eq_true rfl, Nat.le_of_ble_eq_true rfl⟩ dX9_draw_3 (fun H locs hP hS => ?_)
  refine lv_if_eq (tgt := 26) hx hb dX9_draw_6 rfl (fun hc => ?_) (fun hc => ?_)
  · have hF := (if_pos hc).symm.trans hF
    refine lv_bipush (v := (-2 : Int32)) hx hb dX9_draw_26 bp_m2 ?_
    exact ret_IWC Z hr hlk hP hS hF dX9_draw_28
  · have hF := (if_neg hc).symm.trans hF
    refine lv_iload_n hx hb dX9_draw_9 rfl (lv_at hl 2 rfl) ?_
    refine lv_bipush (v := (8 : Int32)) hx hb dX9_draw_10 bp_8 ?_
    obtain ⟨q6, hq6, hF⟩ := bd_ok hF
    refine xX9_in Z hP hS hq6 wd_7_7 hl.1 (Nat.le_of_ble_eq_true rfl) ⟨Nat.le_of_ble_eq_true rfl, Nat.le_of_ble_eq_true rfl⟩ dX9_draw_12 (fun H locs hP hS => ?_)
    refine lv_if_eq (tgt := 26) hx hb dX9_draw_15 rfl (fun hc => ?_) (fun hc => ?_)
    · have hF := (if_pos hc).symm.trans hF
      refine lv_bipush (v := (-2 : Int32)) hx hb dX9_draw_26 bp_m2 ?_
      exact ret_IWC Z hr hlk hP hS hF dX9_draw_28
    · have hF := (if_neg hc).symm.trans hF
      refine lv_iload_n hx hb dX9_draw_18 rfl (lv_at hl 3 rfl) ?_
      refine lv_iconst (v := (5 : Int32)) hx hb dX9_draw_19 ic_5 ?_
      obtain ⟨q7, hq7, hF⟩ := bd_ok hF
      refine xX9_in Z hP hS hq7 wd_7_7 hl.1 (Nat.le_of_ble_eq_true rfl) ⟨Nat.le_of_ble_eq_true rfl, Nat.le_of_ble_eq_true rfl⟩ dX9_draw_20 (fun H locs hP hS => ?_)
      refine lv_if_ne (tgt := 29) hx hb dX9_draw_23 rfl (fun hc => ?_) (fun hc => ?_)
      · have hF := (if_neg hc).symm.trans hF
        refine lv_aload_n hx hb dX9_draw_29 rfl (lv_at hl 0 rfl) ?_
        refine gf9_4 Z hP wd_2_7 dX9_draw_30 ?_
        refine lv_iload_n hx hb dX9_draw_33 rfl (lv_at hl 1 rfl) ?_
        refine lv_iload_n hx hb dX9_draw_34 rfl (lv_at hl 2 rfl) ?_
        refine lv_iload_n hx hb dX9_draw_35 rfl (lv_at hl 3 rfl) ?_
        obtain ⟨q8, hq8, hF⟩ := bd_ok hF
        refine xX1_add Z hP hS ck_21 hq8 wd_32_4 hl.1 (Nat.le_of_ble_eq_true rfl) ⟨Nat.le_of_ble_eq_true rfl, Nat.le_of_ble_eq_true rfl⟩ dX9_draw_36 (fun H locs hP hS => ?_)
        refine lv_if_eq (tgt := 52) hx hb dX9_draw_39 rfl (fun hc => ?_) (fun hc => ?_)
        · have hF := (if_pos hc).symm.trans hF
          refine lv_bipush (v := (-4 : Int32)) hx hb dX9_draw_52 bp_m4 ?_
          exact ret_IWC Z hr hlk hP hS hF dX9_draw_54
        · have hF := (if_neg hc).symm.trans hF
          refine lv_aload_n hx hb dX9_draw_42 rfl (lv_at hl 0 rfl) ?_
          refine gf9_4 Z hP wd_2_7 dX9_draw_43 ?_
          refine gf1_3N Z hP ck_21 nf_20 dX9_draw_46 ?_
          refine lv_goto (tgt := 54) hx hb dX9_draw_49 rfl ?_
          exact ret_IWC Z hr hlk hP hS hF dX9_draw_54
      · have hF := (if_pos hc).symm.trans hF
        refine lv_bipush (v := (-2 : Int32)) hx hb dX9_draw_26 bp_m2 ?_
        exact ret_IWC Z hr hlk hP hS hF dX9_draw_28
theorem xX9_draw {p : Program} {l : Launch} {e : Env} {R : Room} {s : State} {m : MethodId} {args : Array Value} {below : List Frame} {meth : Method} {c : Code} {H : Heap} {locs : List Loc} {Q : State → Prop} {cc : ByteArray} {nL : Nat} {own : String} {g : GG} {pc index : Nat} {ls : Array Slot} {rest : List Value} {mc mm : Mem} (Z : ZZ p s m args c cc nL own g) (hP : va_P g.2.2.1 vwCl (wL g mc mm) H) (hS : va_S (AA g s.heap.size) s.heap H locs) {v1 : Int32} {v2 : Int32} {v3 : Int32} {q : Int32 × Mem} (hq : F9_draw v1 v2 v3 mc = some q) (hlk : Cond.methodLink own index yX9_draw ∈ wsL_law) (hsz : ls.size = nL) (hro : (rest.map fun v => v.category).sum ≤ 8) (hR : 1 + 1 ≤ R.frames ∧ 8 + (4 + 11) + 23 ≤ R.locals) (hdg : decode cc pc = .ok (.invokevirtual index, 3)) (kk : ∀ (H : Heap) (locs : List Loc), va_P g.2.2.1 vwCl (wL g q.2 mm) H → va_S (AA g s.heap.size) s.heap H locs → W p l e R s m args below meth c H locs 0 0 Q (F0 m (pc + 3) ls (.int q.1 :: rest))) : W p l e R s m args below meth c H locs 0 0 Q (F0 m pc ls (.int v3 :: .int v2 :: .int v1 :: .ref (g.1 0) :: rest)) :=
  x_VI Z hP hS (kX9_draw l g v1 v2 v3 mc mm q hq) (isO_w ck_0) (ci := 9) (by decide) rfl rfl mf_X9_draw mv_X9_draw hlk rfl rfl hsz hro hR hdg kk
theorem dX9_forget_0 : decode cX9_forget 0 = .ok (.aload_n 0, 1) := by decide +kernel
theorem dX9_forget_1 : decode cX9_forget 1 = .ok (.getfield 42, 3) := by decide +kernel
theorem dX9_forget_4 : decode cX9_forget 4 = .ok (.getfield 231, 3) := by decide +kernel
theorem dX9_forget_7 : decode cX9_forget 7 = .ok (.istore_n 1, 1) := by decide +kernel
theorem dX9_forget_8 : decode cX9_forget 8 = .ok (.aload_n 0, 1) := by decide +kernel
theorem dX9_forget_9 : decode cX9_forget 9 = .ok (.getfield 42, 3) := by decide +kernel
theorem dX9_forget_12 : decode cX9_forget 12 = .ok (.iconst 0, 1) := by decide +kernel
theorem dX9_forget_13 : decode cX9_forget 13 = .ok (.putfield 231, 3) := by decide +kernel
theorem dX9_forget_16 : decode cX9_forget 16 = .ok (.iload_n 1, 1) := by decide +kernel
theorem dX9_forget_17 : decode cX9_forget 17 = .ok (.ireturn, 1) := by decide +kernel
noncomputable def F9_forget (mc : Mem) : Option (Int32 × Mem) :=
  some ((mc 21 3), (mset mc 21 3 (0 : Int32)))
set_option maxHeartbeats 4000000 in
set_option maxRecDepth 100000 in
theorem kX9_forget (l : Launch) (g : GG) (mc mm : Mem) (q : Int32 × Mem) (hF : F9_forget mc = some q) : KI l yX9_forget cX9_forget 2 .int 0 0 g [.ref (g.1 0)] mc mm q.1 (q.2, mm) := by
  intro sz
  refine x_start (Qc := fun z => QI g z q.1 (q.2, mm)) (by decide +kernel) (Nat.le_of_ble_eq_true rfl) ?_ sz
  intro p e s m args below meth c ls Z hr hlk hP hl
  have hx := Z.1.1
  have hb := Z.1.2.1
  have hown := Z.1.2.2.2.1
  have hts := Z.1.2.2.2.2
  have hS : va_S (AA g s.heap.size) s.heap s.heap [] := va_S.rf
  have hl : lv_has ls 2 [(0, .ref (g.1 0))] := hl
  unfold F9_forget at hF
  refine lv_aload_n hx hb dX9_forget_0 rfl (lv_at hl 0 rfl) ?_
  refine gf9_4 Z hP wd_2_7 dX9_forget_1 ?_
  refine gf1_3N Z hP ck_21 nf_20 dX9_forget_4 ?_
  refine lv_istore_n (lv' := [(1, .int (mc 21 3)), (0, .ref (g.1 0))]) hx hb dX9_forget_7 rfl hl (Nat.le_of_ble_eq_true rfl) rfl (fun ls hl => ?_)
  refine lv_aload_n hx hb dX9_forget_8 rfl (lv_at hl 1 rfl) ?_
  refine gf9_4 Z hP wd_2_7 dX9_forget_9 ?_
  refine lv_iconst (v := (0 : Int32)) hx hb dX9_forget_12 ic_0 ?_
  refine pf1_3N Z hP hS ck_21 nf_20 dX9_forget_13 (fun H locs hP hS => ?_)
  refine lv_iload_n hx hb dX9_forget_16 rfl (lv_at hl 0 rfl) ?_
  exact ret_IWC Z hr hlk hP hS hF dX9_forget_17
theorem xX9_forget {p : Program} {l : Launch} {e : Env} {R : Room} {s : State} {m : MethodId} {args : Array Value} {below : List Frame} {meth : Method} {c : Code} {H : Heap} {locs : List Loc} {Q : State → Prop} {cc : ByteArray} {nL : Nat} {own : String} {g : GG} {pc index : Nat} {ls : Array Slot} {rest : List Value} {mc mm : Mem} (Z : ZZ p s m args c cc nL own g) (hP : va_P g.2.2.1 vwCl (wL g mc mm) H) (hS : va_S (AA g s.heap.size) s.heap H locs) {q : Int32 × Mem} (hq : F9_forget mc = some q) (hlk : Cond.methodLink own index yX9_forget ∈ wsL_law) (hsz : ls.size = nL) (hro : (rest.map fun v => v.category).sum ≤ 8) (hR : 0 + 1 ≤ R.frames ∧ 8 + (2 + 11) + 0 ≤ R.locals) (hdg : decode cc pc = .ok (.invokevirtual index, 3)) (kk : ∀ (H : Heap) (locs : List Loc), va_P g.2.2.1 vwCl (wL g q.2 mm) H → va_S (AA g s.heap.size) s.heap H locs → W p l e R s m args below meth c H locs 0 0 Q (F0 m (pc + 3) ls (.int q.1 :: rest))) : W p l e R s m args below meth c H locs 0 0 Q (F0 m pc ls (.ref (g.1 0) :: rest)) :=
  x_VI Z hP hS (kX9_forget l g mc mm q hq) (isO_w ck_0) (ci := 9) (by decide) rfl rfl mf_X9_forget mv_X9_forget hlk rfl rfl hsz hro hR hdg kk
theorem dX9_comesOut_0 : decode cX9_comesOut 0 = .ok (.iconst 0, 1) := by decide +kernel
theorem dX9_comesOut_1 : decode cX9_comesOut 1 = .ok (.istore 5, 2) := by decide +kernel
theorem dX9_comesOut_3 : decode cX9_comesOut 3 = .ok (.iload 5, 2) := by decide +kernel
theorem dX9_comesOut_5 : decode cX9_comesOut 5 = .ok (.aload_n 0, 1) := by decide +kernel
theorem dX9_comesOut_6 : decode cX9_comesOut 6 = .ok (.getfield 42, 3) := by decide +kernel
theorem dX9_comesOut_9 : decode cX9_comesOut 9 = .ok (.getfield 231, 3) := by decide +kernel
theorem dX9_comesOut_12 : decode cX9_comesOut 12 = .ok (.if_icmp .ge 117, 3) := by decide +kernel
theorem dX9_comesOut_15 : decode cX9_comesOut 15 = .ok (.aload_n 0, 1) := by decide +kernel
theorem dX9_comesOut_16 : decode cX9_comesOut 16 = .ok (.getfield 42, 3) := by decide +kernel
theorem dX9_comesOut_19 : decode cX9_comesOut 19 = .ok (.getfield 407, 3) := by decide +kernel
theorem dX9_comesOut_22 : decode cX9_comesOut 22 = .ok (.iload 5, 2) := by decide +kernel
theorem dX9_comesOut_24 : decode cX9_comesOut 24 = .ok (.iaload, 1) := by decide +kernel
theorem dX9_comesOut_25 : decode cX9_comesOut 25 = .ok (.istore 6, 2) := by decide +kernel
theorem dX9_comesOut_27 : decode cX9_comesOut 27 = .ok (.iload 6, 2) := by decide +kernel
theorem dX9_comesOut_29 : decode cX9_comesOut 29 = .ok (.aload_n 0, 1) := by decide +kernel
theorem dX9_comesOut_30 : decode cX9_comesOut 30 = .ok (.getfield 28, 3) := by decide +kernel
theorem dX9_comesOut_33 : decode cX9_comesOut 33 = .ok (.getfield 134, 3) := by decide +kernel
theorem dX9_comesOut_36 : decode cX9_comesOut 36 = .ok (.invokestatic 101, 3) := by decide +kernel
theorem dX9_comesOut_39 : decode cX9_comesOut 39 = .ok (.ifCond .ne 5, 3) := by decide +kernel
theorem dX9_comesOut_42 : decode cX9_comesOut 42 = .ok (.iconst 0, 1) := by decide +kernel
theorem dX9_comesOut_43 : decode cX9_comesOut 43 = .ok (.ireturn, 1) := by decide +kernel
theorem dX9_comesOut_44 : decode cX9_comesOut 44 = .ok (.aload_n 0, 1) := by decide +kernel
theorem dX9_comesOut_45 : decode cX9_comesOut 45 = .ok (.getfield 80, 3) := by decide +kernel
theorem dX9_comesOut_48 : decode cX9_comesOut 48 = .ok (.aload_n 1, 1) := by decide +kernel
theorem dX9_comesOut_49 : decode cX9_comesOut 49 = .ok (.aload_n 2, 1) := by decide +kernel
theorem dX9_comesOut_50 : decode cX9_comesOut 50 = .ok (.aload_n 0, 1) := by decide +kernel
theorem dX9_comesOut_51 : decode cX9_comesOut 51 = .ok (.getfield 28, 3) := by decide +kernel
theorem dX9_comesOut_54 : decode cX9_comesOut 54 = .ok (.iload 6, 2) := by decide +kernel
theorem dX9_comesOut_56 : decode cX9_comesOut 56 = .ok (.aload_n 0, 1) := by decide +kernel
theorem dX9_comesOut_57 : decode cX9_comesOut 57 = .ok (.getfield 28, 3) := by decide +kernel
theorem dX9_comesOut_60 : decode cX9_comesOut 60 = .ok (.getfield 138, 3) := by decide +kernel
theorem dX9_comesOut_63 : decode cX9_comesOut 63 = .ok (.iload 6, 2) := by decide +kernel
theorem dX9_comesOut_65 : decode cX9_comesOut 65 = .ok (.iaload, 1) := by decide +kernel
theorem dX9_comesOut_66 : decode cX9_comesOut 66 = .ok (.iload 6, 2) := by decide +kernel
theorem dX9_comesOut_68 : decode cX9_comesOut 68 = .ok (.iload_n 3, 1) := by decide +kernel
theorem dX9_comesOut_69 : decode cX9_comesOut 69 = .ok (.if_icmp .ne 8, 3) := by decide +kernel
theorem dX9_comesOut_72 : decode cX9_comesOut 72 = .ok (.iload 4, 2) := by decide +kernel
theorem dX9_comesOut_74 : decode cX9_comesOut 74 = .ok (.goto 13, 3) := by decide +kernel
theorem dX9_comesOut_77 : decode cX9_comesOut 77 = .ok (.aload_n 0, 1) := by decide +kernel
theorem dX9_comesOut_78 : decode cX9_comesOut 78 = .ok (.getfield 28, 3) := by decide +kernel
theorem dX9_comesOut_81 : decode cX9_comesOut 81 = .ok (.getfield 141, 3) := by decide +kernel
theorem dX9_comesOut_84 : decode cX9_comesOut 84 = .ok (.iload 6, 2) := by decide +kernel
theorem dX9_comesOut_86 : decode cX9_comesOut 86 = .ok (.iaload, 1) := by decide +kernel
theorem dX9_comesOut_87 : decode cX9_comesOut 87 = .ok (.invokevirtual 198, 3) := by decide +kernel
theorem dX9_comesOut_90 : decode cX9_comesOut 90 = .ok (.aload_n 0, 1) := by decide +kernel
theorem dX9_comesOut_91 : decode cX9_comesOut 91 = .ok (.getfield 80, 3) := by decide +kernel
theorem dX9_comesOut_94 : decode cX9_comesOut 94 = .ok (.getfield 176, 3) := by decide +kernel
theorem dX9_comesOut_97 : decode cX9_comesOut 97 = .ok (.aload_n 0, 1) := by decide +kernel
theorem dX9_comesOut_98 : decode cX9_comesOut 98 = .ok (.getfield 42, 3) := by decide +kernel
theorem dX9_comesOut_101 : decode cX9_comesOut 101 = .ok (.getfield 409, 3) := by decide +kernel
theorem dX9_comesOut_104 : decode cX9_comesOut 104 = .ok (.iload 5, 2) := by decide +kernel
theorem dX9_comesOut_106 : decode cX9_comesOut 106 = .ok (.iaload, 1) := by decide +kernel
theorem dX9_comesOut_107 : decode cX9_comesOut 107 = .ok (.iaload, 1) := by decide +kernel
theorem dX9_comesOut_108 : decode cX9_comesOut 108 = .ok (.aload_n 0, 1) := by decide +kernel
theorem dX9_comesOut_109 : decode cX9_comesOut 109 = .ok (.getfield 42, 3) := by decide +kernel
theorem dX9_comesOut_112 : decode cX9_comesOut 112 = .ok (.getfield 410, 3) := by decide +kernel
theorem dX9_comesOut_115 : decode cX9_comesOut 115 = .ok (.iload 5, 2) := by decide +kernel
theorem dX9_comesOut_117 : decode cX9_comesOut 117 = .ok (.iaload, 1) := by decide +kernel
theorem dX9_comesOut_118 : decode cX9_comesOut 118 = .ok (.if_icmp .eq 5, 3) := by decide +kernel
theorem dX9_comesOut_121 : decode cX9_comesOut 121 = .ok (.iconst 0, 1) := by decide +kernel
theorem dX9_comesOut_122 : decode cX9_comesOut 122 = .ok (.ireturn, 1) := by decide +kernel
theorem dX9_comesOut_123 : decode cX9_comesOut 123 = .ok (.iinc 5 1, 3) := by decide +kernel
theorem dX9_comesOut_126 : decode cX9_comesOut 126 = .ok (.goto (-123), 3) := by decide +kernel
theorem dX9_comesOut_129 : decode cX9_comesOut 129 = .ok (.iconst 1, 1) := by decide +kernel
theorem dX9_comesOut_130 : decode cX9_comesOut 130 = .ok (.ireturn, 1) := by decide +kernel
noncomputable def F9_comesOut_b87 (kh : Int32 → Mem → Option (Int32 × Mem)) (v1 : Nat) (v2 : Nat) (v3 : Int32) (v4 : Int32) (a5 : Int32) (s0 : Nat) (s1 : Nat) (s2 : Nat) (s3 : Nat) (s4 : Int32) (s5 : Int32) (s6 : Int32) (M : Mem) : Option (Int32 × Mem) :=
  ((F4_follow s0 s1 s2 s3 s4 s5 s6 M).bind (fun q9 => (ck a5 8 (ck (q9 22 a5.toNatClampNeg) 40 (ck a5 8 (if (q9 95 (q9 22 a5.toNatClampNeg).toNatClampNeg) = (q9 24 a5.toNatClampNeg) then kh (a5 + (1 : Int32)) q9 else some ((0 : Int32), q9)))))))
noncomputable def F9_comesOut_p3 (kh : Int32 → Mem → Option (Int32 × Mem)) (v1 : Nat) (v2 : Nat) (v3 : Int32) (v4 : Int32) (a5 : Int32) (M : Mem) : Option (Int32 × Mem) :=
  (if (M 21 3) ≤ a5 then some ((1 : Int32), M) else (ck a5 8 ((F9_in (M 23 a5.toNatClampNeg) (M 11 5)).bind (fun q14 => (if q14 = (0 : Int32) then some ((0 : Int32), M) else (ck (M 23 a5.toNatClampNeg) 8 (if (M 23 a5.toNatClampNeg) = v3 then (F9_comesOut_b87 kh v1 v2 v3 v4) a5 92 v1 v2 11 (M 23 a5.toNatClampNeg) (M 13 (M 23 a5.toNatClampNeg).toNatClampNeg) v4 M else (ck (M 23 a5.toNatClampNeg) 8 ((F9_comesOut_b87 kh v1 v2 v3 v4) a5 92 v1 v2 11 (M 23 a5.toNatClampNeg) (M 13 (M 23 a5.toNatClampNeg).toNatClampNeg) (M 14 (M 23 a5.toNatClampNeg).toNatClampNeg) M)))))))))
noncomputable def F9_comesOut_h3 (v1 : Nat) (v2 : Nat) (v3 : Int32) (v4 : Int32) : Nat → Int32 → Mem → Option (Int32 × Mem)
  | 0, _, _ => none
  | n + 1, a5, M => F9_comesOut_p3 (F9_comesOut_h3 v1 v2 v3 v4 n) v1 v2 v3 v4 a5 M
noncomputable def F9_comesOut (v1 : Nat) (v2 : Nat) (v3 : Int32) (v4 : Int32) (mc : Mem) : Option (Int32 × Mem) :=
  (F9_comesOut_h3 v1 v2 v3 v4 FU) (0 : Int32) mc
set_option maxHeartbeats 4000000 in
set_option maxRecDepth 100000 in
theorem kX9_comesOut (l : Launch) (g : GG) (v1 : Nat) (v2 : Nat) (v3 : Int32) (v4 : Int32) (h1 : isO 8 v1) (h2 : isO 3 v2) (mc mm : Mem) (q : Int32 × Mem) (hF : F9_comesOut v1 v2 v3 v4 mc = some q) : KI l yX9_comesOut cX9_comesOut 7 .boolean 2 56 g [.ref (g.1 0), .ref (g.1 v1), .ref (g.1 v2), .int v3, .int v4] mc mm q.1 (q.2, mm) := by
  intro sz
  refine x_start (Qc := fun z => QI g z q.1 (q.2, mm)) (by decide +kernel) (Nat.le_of_ble_eq_true rfl) ?_ sz
  intro p e s m args below meth c ls Z hr hlk hP hl
  have hx := Z.1.1
  have hb := Z.1.2.1
  have hown := Z.1.2.2.2.1
  have hts := Z.1.2.2.2.2
  have hS : va_S (AA g s.heap.size) s.heap s.heap [] := va_S.rf
  have hl : lv_has ls 7 [(0, .ref (g.1 0)), (1, .ref (g.1 v1)), (2, .ref (g.1 v2)), (3, .int v3), (4, .int v4)] := hl
  unfold F9_comesOut at hF
  have hL3 : ∀ n : Nat, ∀ (a5 : Int32) (M : Mem), F9_comesOut_h3 v1 v2 v3 v4 n a5 M = some q → ∀ (H : Heap) (locs : List Loc) (ls : Array Slot), lv_has ls 7 [(0, .ref (g.1 0)), (1, .ref (g.1 v1)), (2, .ref (g.1 v2)), (3, .int v3), (4, .int v4), (5, .int a5)] → va_P g.2.2.1 vwCl (wL g M mm) H → va_S (AA g s.heap.size) s.heap H locs → W p l e { frames := 2, cells := 0, slots := 0, locals := 56 } s m args below meth c H locs 0 0 (MQ below (QI g s.heap.size q.1 (q.2, mm)) args s 0 0 (AA g s.heap.size)) (F0 m 3 ls []) := by
    intro n
    induction n with
    | zero => intro a5 M hF H locs ls hl hP hS; exact absurd hF (fun z => nomatch (show (none : Option _) = some q from z))
    | succ n ih =>
      generalize hkh : F9_comesOut_h3 v1 v2 v3 v4 n = kh at ih
      have hb87 : ∀ (a5 : Int32) (s0 : Nat) (s1 : Nat) (s2 : Nat) (s3 : Nat) (s4 : Int32) (s5 : Int32) (s6 : Int32) (M : Mem), F9_comesOut_b87 kh v1 v2 v3 v4 a5 s0 s1 s2 s3 s4 s5 s6 M = some q → isO 4 s0 → isO 8 s1 → isO 3 s2 → isO 5 s3 → ∀ (H : Heap) (locs : List Loc) (ls : Array Slot), lv_has ls 7 [(0, .ref (g.1 0)), (1, .ref (g.1 v1)), (2, .ref (g.1 v2)), (3, .int v3), (4, .int v4), (5, .int a5)] → va_P g.2.2.1 vwCl (wL g M mm) H → va_S (AA g s.heap.size) s.heap H locs → W p l e { frames := 2, cells := 0, slots := 0, locals := 56 } s m args below meth c H locs 0 0 (MQ below (QI g s.heap.size q.1 (q.2, mm)) args s 0 0 (AA g s.heap.size)) (F0 m 87 ls [.int s6, .int s5, .int s4, .ref (g.1 s3), .ref (g.1 s2), .ref (g.1 s1), .ref (g.1 s0)]) := by
        intro a5 s0 s1 s2 s3 s4 s5 s6 M hF h_s0 h_s1 h_s2 h_s3 H locs ls hl hP hS
        unfold F9_comesOut_b87 at hF
        obtain ⟨q9, hq9, hF⟩ := bd_ok hF
        refine xX4_follow Z hP hS h_s0 h_s1 h_s2 h_s3 hq9 wd_20_22 hl.1 (Nat.le_of_ble_eq_true rfl) ⟨Nat.le_of_ble_eq_true rfl, Nat.le_of_ble_eq_true rfl⟩ dX9_comesOut_87 (fun H locs hP hS => ?_)
        refine lv_aload_n hx hb dX9_comesOut_90 rfl (lv_at hl 0 rfl) ?_
        refine gf9_13 Z hP wd_3_0 dX9_comesOut_91 ?_
        refine gf4_2N Z hP ck_92 nf_13 dX9_comesOut_94 ?_
        refine lv_aload_n hx hb dX9_comesOut_97 rfl (lv_at hl 0 rfl) ?_
        refine gf9_4 Z hP wd_2_7 dX9_comesOut_98 ?_
        refine gf1_0N Z hP ck_21 nf_29 dX9_comesOut_101 ?_
        refine lv_iload hx hb dX9_comesOut_104 (lv_at hl 5 rfl) ?_
        obtain ⟨hi10, hF⟩ := ck_ok hF
        refine ra_ld Z hP (ia_1_0 ck_21) hi10 dX9_comesOut_106 ?_
        obtain ⟨hi11, hF⟩ := ck_ok hF
        refine ra_ld Z hP (ia_4_2 ck_92) hi11 dX9_comesOut_107 ?_
        refine lv_aload_n hx hb dX9_comesOut_108 rfl (lv_at hl 0 rfl) ?_
        refine gf9_4 Z hP wd_2_7 dX9_comesOut_109 ?_
        refine gf1_2N Z hP ck_21 nf_30 dX9_comesOut_112 ?_
        refine lv_iload hx hb dX9_comesOut_115 (lv_at hl 5 rfl) ?_
        obtain ⟨hi12, hF⟩ := ck_ok hF
        refine ra_ld Z hP (ia_1_2 ck_21) hi12 dX9_comesOut_117 ?_
        refine lv_icmp_eq (tgt := 123) hx hb dX9_comesOut_118 rfl (fun hc => ?_) (fun hc => ?_)
        · have hF := (if_pos hc).symm.trans hF
          refine lv_iinc (lv' := [(5, .int (a5 + (1 : Int32))), (0, .ref (g.1 0)), (1, .ref (g.1 v1)), (2, .ref (g.1 v2)), (3, .int v3), (4, .int v4)]) (v := (a5 + (1 : Int32))) hx hb dX9_comesOut_123 hl (k := 5) rfl (io_1 _) (Nat.le_of_ble_eq_true rfl) rfl (fun ls hl => ?_)
          refine lv_goto (tgt := 3) hx hb dX9_comesOut_126 rfl ?_
          exact ih _ _ hF _ _ _ (lv_sub hl [1, 2, 3, 4, 5, 0] rfl) hP hS
        · have hF := (if_neg hc).symm.trans hF
          refine lv_iconst (v := (0 : Int32)) hx hb dX9_comesOut_121 ic_0 ?_
          exact ret_ZWC Z hr hlk hP hS (Or.inl rfl) hF dX9_comesOut_122
      intro a5 M hF H locs ls hl hP hS
      have hF : F9_comesOut_p3 (F9_comesOut_h3 v1 v2 v3 v4 n) v1 v2 v3 v4 a5 M = some q := hF
      rw [hkh] at hF
      unfold F9_comesOut_p3 at hF
      refine lv_iload hx hb dX9_comesOut_3 (lv_at hl 5 rfl) ?_
      refine lv_aload_n hx hb dX9_comesOut_5 rfl (lv_at hl 0 rfl) ?_
      refine gf9_4 Z hP wd_2_7 dX9_comesOut_6 ?_
      refine gf1_3N Z hP ck_21 nf_20 dX9_comesOut_9 ?_
      refine lv_icmp_ge (tgt := 129) hx hb dX9_comesOut_12 rfl (fun hc => ?_) (fun hc => ?_)
      · have hF := (if_pos hc).symm.trans hF
        refine lv_iconst (v := (1 : Int32)) hx hb dX9_comesOut_129 ic_1 ?_
        exact ret_ZWC Z hr hlk hP hS (Or.inr rfl) hF dX9_comesOut_130
      · have hF := (if_neg hc).symm.trans hF
        refine lv_aload_n hx hb dX9_comesOut_15 rfl (lv_at hl 0 rfl) ?_
        refine gf9_4 Z hP wd_2_7 dX9_comesOut_16 ?_
        refine gf1_1N Z hP ck_21 nf_28 dX9_comesOut_19 ?_
        refine lv_iload hx hb dX9_comesOut_22 (lv_at hl 5 rfl) ?_
        obtain ⟨hi13, hF⟩ := ck_ok hF
        refine ra_ld Z hP (ia_1_1 ck_21) hi13 dX9_comesOut_24 ?_
        refine lv_istore (lv' := [(6, .int (M 23 a5.toNatClampNeg)), (0, .ref (g.1 0)), (1, .ref (g.1 v1)), (2, .ref (g.1 v2)), (3, .int v3), (4, .int v4), (5, .int a5)]) hx hb dX9_comesOut_25 hl (Nat.le_of_ble_eq_true rfl) rfl (fun ls hl => ?_)
        refine lv_iload hx hb dX9_comesOut_27 (lv_at hl 0 rfl) ?_
        refine lv_aload_n hx hb dX9_comesOut_29 rfl (lv_at hl 1 rfl) ?_
        refine gf9_2 Z hP wd_1_23 dX9_comesOut_30 ?_
        refine gf5_5N Z hP ck_11 nf_7 dX9_comesOut_33 ?_
        obtain ⟨q14, hq14, hF⟩ := bd_ok hF
        refine xX9_in Z hP hS hq14 wd_7_7 hl.1 (Nat.le_of_ble_eq_true rfl) ⟨Nat.le_of_ble_eq_true rfl, Nat.le_of_ble_eq_true rfl⟩ dX9_comesOut_36 (fun H locs hP hS => ?_)
        refine lv_if_ne (tgt := 44) hx hb dX9_comesOut_39 rfl (fun hc => ?_) (fun hc => ?_)
        · have hF := (if_neg hc).symm.trans hF
          refine lv_aload_n hx hb dX9_comesOut_44 rfl (lv_at hl 1 rfl) ?_
          refine gf9_13 Z hP wd_3_0 dX9_comesOut_45 ?_
          refine lv_aload_n hx hb dX9_comesOut_48 rfl (lv_at hl 2 rfl) ?_
          refine lv_aload_n hx hb dX9_comesOut_49 rfl (lv_at hl 3 rfl) ?_
          refine lv_aload_n hx hb dX9_comesOut_50 rfl (lv_at hl 1 rfl) ?_
          refine gf9_2 Z hP wd_1_23 dX9_comesOut_51 ?_
          refine lv_iload hx hb dX9_comesOut_54 (lv_at hl 0 rfl) ?_
          refine lv_aload_n hx hb dX9_comesOut_56 rfl (lv_at hl 1 rfl) ?_
          refine gf9_2 Z hP wd_1_23 dX9_comesOut_57 ?_
          refine gf5_1N Z hP ck_11 nf_9 dX9_comesOut_60 ?_
          refine lv_iload hx hb dX9_comesOut_63 (lv_at hl 0 rfl) ?_
          obtain ⟨hi15, hF⟩ := ck_ok hF
          refine ra_ld Z hP (ia_5_1 ck_11) hi15 dX9_comesOut_65 ?_
          refine lv_iload hx hb dX9_comesOut_66 (lv_at hl 0 rfl) ?_
          refine lv_iload_n hx hb dX9_comesOut_68 rfl (lv_at hl 4 rfl) ?_
          refine lv_icmp_ne (tgt := 77) hx hb dX9_comesOut_69 rfl (fun hc => ?_) (fun hc => ?_)
          · have hF := (if_neg hc).symm.trans hF
            refine lv_aload_n hx hb dX9_comesOut_77 rfl (lv_at hl 1 rfl) ?_
            refine gf9_2 Z hP wd_1_23 dX9_comesOut_78 ?_
            refine gf5_2N Z hP ck_11 nf_10 dX9_comesOut_81 ?_
            refine lv_iload hx hb dX9_comesOut_84 (lv_at hl 0 rfl) ?_
            obtain ⟨hi16, hF⟩ := ck_ok hF
            refine ra_ld Z hP (ia_5_2 ck_11) hi16 dX9_comesOut_86 ?_
            exact hb87 _ _ _ _ _ _ _ _ _ hF ck_92 h1 h2 ck_11 _ _ _ (lv_sub hl [1, 2, 3, 4, 5, 6] rfl) hP hS
          · have hF := (if_pos hc).symm.trans hF
            refine lv_iload hx hb dX9_comesOut_72 (lv_at hl 5 rfl) ?_
            refine lv_goto (tgt := 87) hx hb dX9_comesOut_74 rfl ?_
            exact hb87 _ _ _ _ _ _ _ _ _ hF ck_92 h1 h2 ck_11 _ _ _ (lv_sub hl [1, 2, 3, 4, 5, 6] rfl) hP hS
        · have hF := (if_pos hc).symm.trans hF
          refine lv_iconst (v := (0 : Int32)) hx hb dX9_comesOut_42 ic_0 ?_
          exact ret_ZWC Z hr hlk hP hS (Or.inl rfl) hF dX9_comesOut_43
  refine lv_iconst (v := (0 : Int32)) hx hb dX9_comesOut_0 ic_0 ?_
  refine lv_istore (lv' := [(5, .int (0 : Int32)), (0, .ref (g.1 0)), (1, .ref (g.1 v1)), (2, .ref (g.1 v2)), (3, .int v3), (4, .int v4)]) hx hb dX9_comesOut_1 hl (Nat.le_of_ble_eq_true rfl) rfl (fun ls hl => ?_)
  exact (hL3 FU) _ _ hF _ _ _ (lv_sub hl [1, 2, 3, 4, 5, 0] rfl) hP hS
theorem xX9_comesOut {p : Program} {l : Launch} {e : Env} {R : Room} {s : State} {m : MethodId} {args : Array Value} {below : List Frame} {meth : Method} {c : Code} {H : Heap} {locs : List Loc} {Q : State → Prop} {cc : ByteArray} {nL : Nat} {own : String} {g : GG} {pc index : Nat} {ls : Array Slot} {rest : List Value} {mc mm : Mem} (Z : ZZ p s m args c cc nL own g) (hP : va_P g.2.2.1 vwCl (wL g mc mm) H) (hS : va_S (AA g s.heap.size) s.heap H locs) {v1 : Nat} {v2 : Nat} {v3 : Int32} {v4 : Int32} (h1 : isO 8 v1) (h2 : isO 3 v2) {q : Int32 × Mem} (hq : F9_comesOut v1 v2 v3 v4 mc = some q) (hlk : Cond.methodLink own index yX9_comesOut ∈ wsL_law) (hsz : ls.size = nL) (hro : (rest.map fun v => v.category).sum ≤ 8) (hR : 2 + 1 ≤ R.frames ∧ 8 + (7 + 11) + 56 ≤ R.locals) (hdg : decode cc pc = .ok (.invokevirtual index, 3)) (kk : ∀ (H : Heap) (locs : List Loc), va_P g.2.2.1 vwCl (wL g q.2 mm) H → va_S (AA g s.heap.size) s.heap H locs → W p l e R s m args below meth c H locs 0 0 Q (F0 m (pc + 3) ls (.int q.1 :: rest))) : W p l e R s m args below meth c H locs 0 0 Q (F0 m pc ls (.int v4 :: .int v3 :: .ref (g.1 v2) :: .ref (g.1 v1) :: .ref (g.1 0) :: rest)) :=
  x_VI Z hP hS (kX9_comesOut l g v1 v2 v3 v4 h1 h2 mc mm q hq) (isO_w ck_0) (ci := 9) (by decide) rfl rfl mf_X9_comesOut mv_X9_comesOut hlk rfl rfl hsz hro hR hdg kk
theorem dX9_never_0 : decode cX9_never 0 = .ok (.iconst 0, 1) := by decide +kernel
theorem dX9_never_1 : decode cX9_never 1 = .ok (.istore_n 1, 1) := by decide +kernel
theorem dX9_never_2 : decode cX9_never 2 = .ok (.iconst 0, 1) := by decide +kernel
theorem dX9_never_3 : decode cX9_never 3 = .ok (.istore_n 2, 1) := by decide +kernel
theorem dX9_never_4 : decode cX9_never 4 = .ok (.iload_n 2, 1) := by decide +kernel
theorem dX9_never_5 : decode cX9_never 5 = .ok (.aload_n 0, 1) := by decide +kernel
theorem dX9_never_6 : decode cX9_never 6 = .ok (.getfield 35, 3) := by decide +kernel
theorem dX9_never_9 : decode cX9_never 9 = .ok (.getfield 160, 3) := by decide +kernel
theorem dX9_never_12 : decode cX9_never 12 = .ok (.if_icmp .ge 50, 3) := by decide +kernel
theorem dX9_never_15 : decode cX9_never 15 = .ok (.aload_n 0, 1) := by decide +kernel
theorem dX9_never_16 : decode cX9_never 16 = .ok (.getfield 74, 3) := by decide +kernel
theorem dX9_never_19 : decode cX9_never 19 = .ok (.aload_n 0, 1) := by decide +kernel
theorem dX9_never_20 : decode cX9_never 20 = .ok (.getfield 35, 3) := by decide +kernel
theorem dX9_never_23 : decode cX9_never 23 = .ok (.iconst (-1), 1) := by decide +kernel
theorem dX9_never_24 : decode cX9_never 24 = .ok (.iconst 1, 1) := by decide +kernel
theorem dX9_never_25 : decode cX9_never 25 = .ok (.iload_n 2, 1) := by decide +kernel
theorem dX9_never_26 : decode cX9_never 26 = .ok (.ishl, 1) := by decide +kernel
theorem dX9_never_27 : decode cX9_never 27 = .ok (.iconst (-1), 1) := by decide +kernel
theorem dX9_never_28 : decode cX9_never 28 = .ok (.ixor, 1) := by decide +kernel
theorem dX9_never_29 : decode cX9_never 29 = .ok (.iand, 1) := by decide +kernel
theorem dX9_never_30 : decode cX9_never 30 = .ok (.invokevirtual 232, 3) := by decide +kernel
theorem dX9_never_33 : decode cX9_never 33 = .ok (.aload_n 0, 1) := by decide +kernel
theorem dX9_never_34 : decode cX9_never 34 = .ok (.aload_n 0, 1) := by decide +kernel
theorem dX9_never_35 : decode cX9_never 35 = .ok (.getfield 21, 3) := by decide +kernel
theorem dX9_never_38 : decode cX9_never 38 = .ok (.aload_n 0, 1) := by decide +kernel
theorem dX9_never_39 : decode cX9_never 39 = .ok (.getfield 74, 3) := by decide +kernel
theorem dX9_never_42 : decode cX9_never 42 = .ok (.iconst (-1), 1) := by decide +kernel
theorem dX9_never_43 : decode cX9_never 43 = .ok (.iconst (-1), 1) := by decide +kernel
theorem dX9_never_44 : decode cX9_never 44 = .ok (.invokevirtual 236, 3) := by decide +kernel
theorem dX9_never_47 : decode cX9_never 47 = .ok (.ifCond .eq 9, 3) := by decide +kernel
theorem dX9_never_50 : decode cX9_never 50 = .ok (.iload_n 1, 1) := by decide +kernel
theorem dX9_never_51 : decode cX9_never 51 = .ok (.iconst 1, 1) := by decide +kernel
theorem dX9_never_52 : decode cX9_never 52 = .ok (.iload_n 2, 1) := by decide +kernel
theorem dX9_never_53 : decode cX9_never 53 = .ok (.ishl, 1) := by decide +kernel
theorem dX9_never_54 : decode cX9_never 54 = .ok (.ior, 1) := by decide +kernel
theorem dX9_never_55 : decode cX9_never 55 = .ok (.istore_n 1, 1) := by decide +kernel
theorem dX9_never_56 : decode cX9_never 56 = .ok (.iinc 2 1, 3) := by decide +kernel
theorem dX9_never_59 : decode cX9_never 59 = .ok (.goto (-55), 3) := by decide +kernel
theorem dX9_never_62 : decode cX9_never 62 = .ok (.iload_n 1, 1) := by decide +kernel
theorem dX9_never_63 : decode cX9_never 63 = .ok (.ireturn, 1) := by decide +kernel
noncomputable def F9_never_b56 (kh : Int32 → Int32 → Mem → Option (Int32 × Mem)) (a1 : Int32) (a2 : Int32) (M : Mem) : Option (Int32 × Mem) :=
  kh a1 (a2 + (1 : Int32)) M
noncomputable def F9_never_p4 (kh : Int32 → Int32 → Mem → Option (Int32 × Mem)) (a1 : Int32) (a2 : Int32) (M : Mem) : Option (Int32 × Mem) :=
  (if (M 17 3) ≤ a2 then some (a1, M) else ((F3_fill 84 17 ((-1 : Int32) &&& (((1 : Int32) <<< (a2 &&& (31 : Int32))) ^^^ (-1 : Int32))) M).bind (fun q3 => ((F9_comesOut 6 84 (-1 : Int32) (-1 : Int32) q3).bind (fun q4 => (if q4.1 = (0 : Int32) then (F9_never_b56 kh) a1 a2 q4.2 else (F9_never_b56 kh) (a1 ||| ((1 : Int32) <<< (a2 &&& (31 : Int32)))) a2 q4.2))))))
noncomputable def F9_never_h4 : Nat → Int32 → Int32 → Mem → Option (Int32 × Mem)
  | 0, _, _, _ => none
  | n + 1, a1, a2, M => F9_never_p4 (F9_never_h4 n) a1 a2 M
noncomputable def F9_never (mc : Mem) : Option (Int32 × Mem) :=
  (F9_never_h4 FU) (0 : Int32) (0 : Int32) mc
set_option maxHeartbeats 4000000 in
set_option maxRecDepth 100000 in
theorem kX9_never (l : Launch) (g : GG) (mc mm : Mem) (q : Int32 × Mem) (hF : F9_never mc = some q) : KI l yX9_never cX9_never 3 .int 3 82 g [.ref (g.1 0)] mc mm q.1 (q.2, mm) := by
  intro sz
  refine x_start (Qc := fun z => QI g z q.1 (q.2, mm)) (by decide +kernel) (Nat.le_of_ble_eq_true rfl) ?_ sz
  intro p e s m args below meth c ls Z hr hlk hP hl
  have hx := Z.1.1
  have hb := Z.1.2.1
  have hown := Z.1.2.2.2.1
  have hts := Z.1.2.2.2.2
  have hS : va_S (AA g s.heap.size) s.heap s.heap [] := va_S.rf
  have hl : lv_has ls 3 [(0, .ref (g.1 0))] := hl
  unfold F9_never at hF
  have hL4 : ∀ n : Nat, ∀ (a1 : Int32) (a2 : Int32) (M : Mem), F9_never_h4 n a1 a2 M = some q → ∀ (H : Heap) (locs : List Loc) (ls : Array Slot), lv_has ls 3 [(0, .ref (g.1 0)), (1, .int a1), (2, .int a2)] → va_P g.2.2.1 vwCl (wL g M mm) H → va_S (AA g s.heap.size) s.heap H locs → W p l e { frames := 3, cells := 0, slots := 0, locals := 82 } s m args below meth c H locs 0 0 (MQ below (QI g s.heap.size q.1 (q.2, mm)) args s 0 0 (AA g s.heap.size)) (F0 m 4 ls []) := by
    intro n
    induction n with
    | zero => intro a1 a2 M hF H locs ls hl hP hS; exact absurd hF (fun z => nomatch (show (none : Option _) = some q from z))
    | succ n ih =>
      generalize hkh : F9_never_h4 n = kh at ih
      have hb56 : ∀ (a1 : Int32) (a2 : Int32) (M : Mem), F9_never_b56 kh a1 a2 M = some q → ∀ (H : Heap) (locs : List Loc) (ls : Array Slot), lv_has ls 3 [(0, .ref (g.1 0)), (1, .int a1), (2, .int a2)] → va_P g.2.2.1 vwCl (wL g M mm) H → va_S (AA g s.heap.size) s.heap H locs → W p l e { frames := 3, cells := 0, slots := 0, locals := 82 } s m args below meth c H locs 0 0 (MQ below (QI g s.heap.size q.1 (q.2, mm)) args s 0 0 (AA g s.heap.size)) (F0 m 56 ls []) := by
        intro a1 a2 M hF H locs ls hl hP hS
        unfold F9_never_b56 at hF
        refine lv_iinc (lv' := [(2, .int (a2 + (1 : Int32))), (0, .ref (g.1 0)), (1, .int a1)]) (v := (a2 + (1 : Int32))) hx hb dX9_never_56 hl (k := 2) rfl (io_1 _) (Nat.le_of_ble_eq_true rfl) rfl (fun ls hl => ?_)
        refine lv_goto (tgt := 4) hx hb dX9_never_59 rfl ?_
        exact ih _ _ _ hF _ _ _ (lv_sub hl [1, 2, 0] rfl) hP hS
      intro a1 a2 M hF H locs ls hl hP hS
      have hF : F9_never_p4 (F9_never_h4 n) a1 a2 M = some q := hF
      rw [hkh] at hF
      unfold F9_never_p4 at hF
      refine lv_iload_n hx hb dX9_never_4 rfl (lv_at hl 2 rfl) ?_
      refine lv_aload_n hx hb dX9_never_5 rfl (lv_at hl 0 rfl) ?_
      refine gf9_3 Z hP wd_2_3 dX9_never_6 ?_
      refine gf2_3N Z hP ck_17 nf_12 dX9_never_9 ?_
      refine lv_icmp_ge (tgt := 62) hx hb dX9_never_12 rfl (fun hc => ?_) (fun hc => ?_)
      · have hF := (if_pos hc).symm.trans hF
        refine lv_iload_n hx hb dX9_never_62 rfl (lv_at hl 1 rfl) ?_
        exact ret_IWC Z hr hlk hP hS hF dX9_never_63
      · have hF := (if_neg hc).symm.trans hF
        refine lv_aload_n hx hb dX9_never_15 rfl (lv_at hl 0 rfl) ?_
        refine gf9_11 Z hP wd_2_22 dX9_never_16 ?_
        refine lv_aload_n hx hb dX9_never_19 rfl (lv_at hl 0 rfl) ?_
        refine gf9_3 Z hP wd_2_3 dX9_never_20 ?_
        refine lv_iconst (v := (-1 : Int32)) hx hb dX9_never_23 ic_m1 ?_
        refine lv_iconst (v := (1 : Int32)) hx hb dX9_never_24 ic_1 ?_
        refine lv_iload_n hx hb dX9_never_25 rfl (lv_at hl 2 rfl) ?_
        refine lv_ishl hx hb dX9_never_26 ?_
        refine lv_iconst (v := (-1 : Int32)) hx hb dX9_never_27 ic_m1 ?_
        refine lv_ixor hx hb dX9_never_28 ?_
        refine lv_iand hx hb dX9_never_29 ?_
        obtain ⟨q3, hq3, hF⟩ := bd_ok hF
        refine xX3_fill Z hP hS ck_84 ck_17 hq3 wd_20_14 hl.1 (Nat.le_of_ble_eq_true rfl) ⟨Nat.le_of_ble_eq_true rfl, Nat.le_of_ble_eq_true rfl⟩ dX9_never_30 (fun H locs hP hS => ?_)
        refine lv_aload_n hx hb dX9_never_33 rfl (lv_at hl 0 rfl) ?_
        refine lv_aload_n hx hb dX9_never_34 rfl (lv_at hl 0 rfl) ?_
        refine gf9_1 Z hP wd_1_19 dX9_never_35 ?_
        refine lv_aload_n hx hb dX9_never_38 rfl (lv_at hl 0 rfl) ?_
        refine gf9_11 Z hP wd_2_22 dX9_never_39 ?_
        refine lv_iconst (v := (-1 : Int32)) hx hb dX9_never_42 ic_m1 ?_
        refine lv_iconst (v := (-1 : Int32)) hx hb dX9_never_43 ic_m1 ?_
        obtain ⟨q4, hq4, hF⟩ := bd_ok hF
        refine xX9_comesOut Z hP hS ck_6 ck_84 hq4 wd_33_2 hl.1 (Nat.le_of_ble_eq_true rfl) ⟨Nat.le_of_ble_eq_true rfl, Nat.le_of_ble_eq_true rfl⟩ dX9_never_44 (fun H locs hP hS => ?_)
        refine lv_if_eq (tgt := 56) hx hb dX9_never_47 rfl (fun hc => ?_) (fun hc => ?_)
        · have hF := (if_pos hc).symm.trans hF
          exact hb56 _ _ _ hF _ _ _ (lv_sub hl [0, 1, 2] rfl) hP hS
        · have hF := (if_neg hc).symm.trans hF
          refine lv_iload_n hx hb dX9_never_50 rfl (lv_at hl 1 rfl) ?_
          refine lv_iconst (v := (1 : Int32)) hx hb dX9_never_51 ic_1 ?_
          refine lv_iload_n hx hb dX9_never_52 rfl (lv_at hl 2 rfl) ?_
          refine lv_ishl hx hb dX9_never_53 ?_
          refine lv_ior hx hb dX9_never_54 ?_
          refine lv_istore_n (lv' := [(1, .int (a1 ||| ((1 : Int32) <<< (a2 &&& (31 : Int32))))), (0, .ref (g.1 0)), (2, .int a2)]) hx hb dX9_never_55 rfl hl (Nat.le_of_ble_eq_true rfl) rfl (fun ls hl => ?_)
          exact hb56 _ _ _ hF _ _ _ (lv_sub hl [1, 0, 2] rfl) hP hS
  refine lv_iconst (v := (0 : Int32)) hx hb dX9_never_0 ic_0 ?_
  refine lv_istore_n (lv' := [(1, .int (0 : Int32)), (0, .ref (g.1 0))]) hx hb dX9_never_1 rfl hl (Nat.le_of_ble_eq_true rfl) rfl (fun ls hl => ?_)
  refine lv_iconst (v := (0 : Int32)) hx hb dX9_never_2 ic_0 ?_
  refine lv_istore_n (lv' := [(2, .int (0 : Int32)), (1, .int (0 : Int32)), (0, .ref (g.1 0))]) hx hb dX9_never_3 rfl hl (Nat.le_of_ble_eq_true rfl) rfl (fun ls hl => ?_)
  exact (hL4 FU) _ _ _ hF _ _ _ (lv_sub hl [2, 1, 0] rfl) hP hS
theorem xX9_never {p : Program} {l : Launch} {e : Env} {R : Room} {s : State} {m : MethodId} {args : Array Value} {below : List Frame} {meth : Method} {c : Code} {H : Heap} {locs : List Loc} {Q : State → Prop} {cc : ByteArray} {nL : Nat} {own : String} {g : GG} {pc index : Nat} {ls : Array Slot} {rest : List Value} {mc mm : Mem} (Z : ZZ p s m args c cc nL own g) (hP : va_P g.2.2.1 vwCl (wL g mc mm) H) (hS : va_S (AA g s.heap.size) s.heap H locs) {q : Int32 × Mem} (hq : F9_never mc = some q) (hlk : Cond.methodLink own index yX9_never ∈ wsL_law) (hsz : ls.size = nL) (hro : (rest.map fun v => v.category).sum ≤ 8) (hR : 3 + 1 ≤ R.frames ∧ 8 + (3 + 11) + 82 ≤ R.locals) (hdg : decode cc pc = .ok (.invokevirtual index, 3)) (kk : ∀ (H : Heap) (locs : List Loc), va_P g.2.2.1 vwCl (wL g q.2 mm) H → va_S (AA g s.heap.size) s.heap H locs → W p l e R s m args below meth c H locs 0 0 Q (F0 m (pc + 3) ls (.int q.1 :: rest))) : W p l e R s m args below meth c H locs 0 0 Q (F0 m pc ls (.ref (g.1 0) :: rest)) :=
  x_VI Z hP hS (kX9_never l g mc mm q hq) (isO_w ck_0) (ci := 9) (by decide) rfl rfl mf_X9_never mv_X9_never hlk rfl rfl hsz hro hR hdg kk
theorem dX9_stonesOf_0 : decode cX9_stonesOf 0 = .ok (.aload_n 0, 1) := by decide +kernel
theorem dX9_stonesOf_1 : decode cX9_stonesOf 1 = .ok (.getfield 71, 3) := by decide +kernel
theorem dX9_stonesOf_4 : decode cX9_stonesOf 4 = .ok (.aload_n 0, 1) := by decide +kernel
theorem dX9_stonesOf_5 : decode cX9_stonesOf 5 = .ok (.getfield 21, 3) := by decide +kernel
theorem dX9_stonesOf_8 : decode cX9_stonesOf 8 = .ok (.invokevirtual 413, 3) := by decide +kernel
theorem dX9_stonesOf_11 : decode cX9_stonesOf 11 = .ok (.iconst 0, 1) := by decide +kernel
theorem dX9_stonesOf_12 : decode cX9_stonesOf 12 = .ok (.istore_n 2, 1) := by decide +kernel
theorem dX9_stonesOf_13 : decode cX9_stonesOf 13 = .ok (.iconst 0, 1) := by decide +kernel
theorem dX9_stonesOf_14 : decode cX9_stonesOf 14 = .ok (.istore_n 3, 1) := by decide +kernel
theorem dX9_stonesOf_15 : decode cX9_stonesOf 15 = .ok (.iload_n 3, 1) := by decide +kernel
theorem dX9_stonesOf_16 : decode cX9_stonesOf 16 = .ok (.iconst 3, 1) := by decide +kernel
theorem dX9_stonesOf_17 : decode cX9_stonesOf 17 = .ok (.if_icmp .ge 42, 3) := by decide +kernel
theorem dX9_stonesOf_20 : decode cX9_stonesOf 20 = .ok (.aload_n 0, 1) := by decide +kernel
theorem dX9_stonesOf_21 : decode cX9_stonesOf 21 = .ok (.getfield 71, 3) := by decide +kernel
theorem dX9_stonesOf_24 : decode cX9_stonesOf 24 = .ok (.getfield 122, 3) := by decide +kernel
theorem dX9_stonesOf_27 : decode cX9_stonesOf 27 = .ok (.iload_n 1, 1) := by decide +kernel
theorem dX9_stonesOf_28 : decode cX9_stonesOf 28 = .ok (.iload_n 3, 1) := by decide +kernel
theorem dX9_stonesOf_29 : decode cX9_stonesOf 29 = .ok (.iastore, 1) := by decide +kernel
theorem dX9_stonesOf_30 : decode cX9_stonesOf 30 = .ok (.aload_n 0, 1) := by decide +kernel
theorem dX9_stonesOf_31 : decode cX9_stonesOf 31 = .ok (.aload_n 0, 1) := by decide +kernel
theorem dX9_stonesOf_32 : decode cX9_stonesOf 32 = .ok (.getfield 71, 3) := by decide +kernel
theorem dX9_stonesOf_35 : decode cX9_stonesOf 35 = .ok (.aload_n 0, 1) := by decide +kernel
theorem dX9_stonesOf_36 : decode cX9_stonesOf 36 = .ok (.getfield 56, 3) := by decide +kernel
theorem dX9_stonesOf_39 : decode cX9_stonesOf 39 = .ok (.iconst (-1), 1) := by decide +kernel
theorem dX9_stonesOf_40 : decode cX9_stonesOf 40 = .ok (.iconst (-1), 1) := by decide +kernel
theorem dX9_stonesOf_41 : decode cX9_stonesOf 41 = .ok (.invokevirtual 236, 3) := by decide +kernel
theorem dX9_stonesOf_44 : decode cX9_stonesOf 44 = .ok (.ifCond .eq 9, 3) := by decide +kernel
theorem dX9_stonesOf_47 : decode cX9_stonesOf 47 = .ok (.iload_n 2, 1) := by decide +kernel
theorem dX9_stonesOf_48 : decode cX9_stonesOf 48 = .ok (.iconst 1, 1) := by decide +kernel
theorem dX9_stonesOf_49 : decode cX9_stonesOf 49 = .ok (.iload_n 3, 1) := by decide +kernel
theorem dX9_stonesOf_50 : decode cX9_stonesOf 50 = .ok (.ishl, 1) := by decide +kernel
theorem dX9_stonesOf_51 : decode cX9_stonesOf 51 = .ok (.ior, 1) := by decide +kernel
theorem dX9_stonesOf_52 : decode cX9_stonesOf 52 = .ok (.istore_n 2, 1) := by decide +kernel
theorem dX9_stonesOf_53 : decode cX9_stonesOf 53 = .ok (.iinc 3 1, 3) := by decide +kernel
theorem dX9_stonesOf_56 : decode cX9_stonesOf 56 = .ok (.goto (-41), 3) := by decide +kernel
theorem dX9_stonesOf_59 : decode cX9_stonesOf 59 = .ok (.iload_n 2, 1) := by decide +kernel
theorem dX9_stonesOf_60 : decode cX9_stonesOf 60 = .ok (.ireturn, 1) := by decide +kernel
noncomputable def F9_stonesOf_b53 (kh : Int32 → Int32 → Mem → Option (Int32 × Mem)) (v1 : Int32) (a2 : Int32) (a3 : Int32) (M : Mem) : Option (Int32 × Mem) :=
  kh a2 (a3 + (1 : Int32)) M
noncomputable def F9_stonesOf_p15 (kh : Int32 → Int32 → Mem → Option (Int32 × Mem)) (v1 : Int32) (a2 : Int32) (a3 : Int32) (M : Mem) : Option (Int32 × Mem) :=
  (if (3 : Int32) ≤ a3 then some (a2, M) else (ck v1 8 (lt (mset M 80 v1.toNatClampNeg a3) (fun M6 => ((F9_comesOut 79 34 (-1 : Int32) (-1 : Int32) M6).bind (fun q7 => (if q7.1 = (0 : Int32) then (F9_stonesOf_b53 kh v1) a2 a3 q7.2 else (F9_stonesOf_b53 kh v1) (a2 ||| ((1 : Int32) <<< (a3 &&& (31 : Int32)))) a3 q7.2)))))))
noncomputable def F9_stonesOf_h15 (v1 : Int32) : Nat → Int32 → Int32 → Mem → Option (Int32 × Mem)
  | 0, _, _, _ => none
  | n + 1, a2, a3, M => F9_stonesOf_p15 (F9_stonesOf_h15 v1 n) v1 a2 a3 M
noncomputable def F9_stonesOf (v1 : Int32) (mc : Mem) : Option (Int32 × Mem) :=
  ((F8_become 79 6 mc).bind (fun q8 => ((F9_stonesOf_h15 v1 FU) (0 : Int32) (0 : Int32) q8)))
set_option maxHeartbeats 4000000 in
set_option maxRecDepth 100000 in
theorem kX9_stonesOf (l : Launch) (g : GG) (v1 : Int32) (mc mm : Mem) (q : Int32 × Mem) (hF : F9_stonesOf v1 mc = some q) : KI l yX9_stonesOf cX9_stonesOf 4 .int 3 82 g [.ref (g.1 0), .int v1] mc mm q.1 (q.2, mm) := by
  intro sz
  refine x_start (Qc := fun z => QI g z q.1 (q.2, mm)) (by decide +kernel) (Nat.le_of_ble_eq_true rfl) ?_ sz
  intro p e s m args below meth c ls Z hr hlk hP hl
  have hx := Z.1.1
  have hb := Z.1.2.1
  have hown := Z.1.2.2.2.1
  have hts := Z.1.2.2.2.2
  have hS : va_S (AA g s.heap.size) s.heap s.heap [] := va_S.rf
  have hl : lv_has ls 4 [(0, .ref (g.1 0)), (1, .int v1)] := hl
  unfold F9_stonesOf at hF
  have hL15 : ∀ n : Nat, ∀ (a2 : Int32) (a3 : Int32) (M : Mem), F9_stonesOf_h15 v1 n a2 a3 M = some q → ∀ (H : Heap) (locs : List Loc) (ls : Array Slot), lv_has ls 4 [(0, .ref (g.1 0)), (1, .int v1), (2, .int a2), (3, .int a3)] → va_P g.2.2.1 vwCl (wL g M mm) H → va_S (AA g s.heap.size) s.heap H locs → W p l e { frames := 3, cells := 0, slots := 0, locals := 82 } s m args below meth c H locs 0 0 (MQ below (QI g s.heap.size q.1 (q.2, mm)) args s 0 0 (AA g s.heap.size)) (F0 m 15 ls []) := by
    intro n
    induction n with
    | zero => intro a2 a3 M hF H locs ls hl hP hS; exact absurd hF (fun z => nomatch (show (none : Option _) = some q from z))
    | succ n ih =>
      generalize hkh : F9_stonesOf_h15 v1 n = kh at ih
      have hb53 : ∀ (a2 : Int32) (a3 : Int32) (M : Mem), F9_stonesOf_b53 kh v1 a2 a3 M = some q → ∀ (H : Heap) (locs : List Loc) (ls : Array Slot), lv_has ls 4 [(0, .ref (g.1 0)), (1, .int v1), (2, .int a2), (3, .int a3)] → va_P g.2.2.1 vwCl (wL g M mm) H → va_S (AA g s.heap.size) s.heap H locs → W p l e { frames := 3, cells := 0, slots := 0, locals := 82 } s m args below meth c H locs 0 0 (MQ below (QI g s.heap.size q.1 (q.2, mm)) args s 0 0 (AA g s.heap.size)) (F0 m 53 ls []) := by
        intro a2 a3 M hF H locs ls hl hP hS
        unfold F9_stonesOf_b53 at hF
        refine lv_iinc (lv' := [(3, .int (a3 + (1 : Int32))), (0, .ref (g.1 0)), (1, .int v1), (2, .int a2)]) (v := (a3 + (1 : Int32))) hx hb dX9_stonesOf_53 hl (k := 3) rfl (io_1 _) (Nat.le_of_ble_eq_true rfl) rfl (fun ls hl => ?_)
        refine lv_goto (tgt := 15) hx hb dX9_stonesOf_56 rfl ?_
        exact ih _ _ _ hF _ _ _ (lv_sub hl [1, 2, 3, 0] rfl) hP hS
      intro a2 a3 M hF H locs ls hl hP hS
      have hF : F9_stonesOf_p15 (F9_stonesOf_h15 v1 n) v1 a2 a3 M = some q := hF
      rw [hkh] at hF
      unfold F9_stonesOf_p15 at hF
      refine lv_iload_n hx hb dX9_stonesOf_15 rfl (lv_at hl 3 rfl) ?_
      refine lv_iconst (v := (3 : Int32)) hx hb dX9_stonesOf_16 ic_3 ?_
      refine lv_icmp_ge (tgt := 59) hx hb dX9_stonesOf_17 rfl (fun hc => ?_) (fun hc => ?_)
      · have hF := (if_pos hc).symm.trans hF
        refine lv_iload_n hx hb dX9_stonesOf_59 rfl (lv_at hl 2 rfl) ?_
        exact ret_IWC Z hr hlk hP hS hF dX9_stonesOf_60
      · have hF := (if_neg hc).symm.trans hF
        refine lv_aload_n hx hb dX9_stonesOf_20 rfl (lv_at hl 0 rfl) ?_
        refine gf9_10 Z hP wd_2_21 dX9_stonesOf_21 ?_
        refine gf8_0N Z hP ck_79 nf_3 dX9_stonesOf_24 ?_
        refine lv_iload_n hx hb dX9_stonesOf_27 rfl (lv_at hl 1 rfl) ?_
        refine lv_iload_n hx hb dX9_stonesOf_28 rfl (lv_at hl 3 rfl) ?_
        obtain ⟨hi5, hF⟩ := ck_ok hF
        refine ra_st Z hP hS (ia_8_0 ck_79) hi5 dX9_stonesOf_29 (fun H locs hP hS => ?_)
        refine lv_aload_n hx hb dX9_stonesOf_30 rfl (lv_at hl 0 rfl) ?_
        refine lv_aload_n hx hb dX9_stonesOf_31 rfl (lv_at hl 0 rfl) ?_
        refine gf9_10 Z hP wd_2_21 dX9_stonesOf_32 ?_
        refine lv_aload_n hx hb dX9_stonesOf_35 rfl (lv_at hl 0 rfl) ?_
        refine gf9_7 Z hP wd_2_15 dX9_stonesOf_36 ?_
        refine lv_iconst (v := (-1 : Int32)) hx hb dX9_stonesOf_39 ic_m1 ?_
        refine lv_iconst (v := (-1 : Int32)) hx hb dX9_stonesOf_40 ic_m1 ?_
        obtain ⟨M6, eM6, hF⟩ := lt_ok hF
        have hP : va_P g.2.2.1 vwCl (wL g M6 mm) H := by rw [eM6]; exact hP
        obtain ⟨q7, hq7, hF⟩ := bd_ok hF
        refine xX9_comesOut Z hP hS ck_79 ck_34 hq7 wd_33_2 hl.1 (Nat.le_of_ble_eq_true rfl) ⟨Nat.le_of_ble_eq_true rfl, Nat.le_of_ble_eq_true rfl⟩ dX9_stonesOf_41 (fun H locs hP hS => ?_)
        refine lv_if_eq (tgt := 53) hx hb dX9_stonesOf_44 rfl (fun hc => ?_) (fun hc => ?_)
        · have hF := (if_pos hc).symm.trans hF
          exact hb53 _ _ _ hF _ _ _ (lv_sub hl [0, 1, 2, 3] rfl) hP hS
        · have hF := (if_neg hc).symm.trans hF
          refine lv_iload_n hx hb dX9_stonesOf_47 rfl (lv_at hl 2 rfl) ?_
          refine lv_iconst (v := (1 : Int32)) hx hb dX9_stonesOf_48 ic_1 ?_
          refine lv_iload_n hx hb dX9_stonesOf_49 rfl (lv_at hl 3 rfl) ?_
          refine lv_ishl hx hb dX9_stonesOf_50 ?_
          refine lv_ior hx hb dX9_stonesOf_51 ?_
          refine lv_istore_n (lv' := [(2, .int (a2 ||| ((1 : Int32) <<< (a3 &&& (31 : Int32))))), (0, .ref (g.1 0)), (1, .int v1), (3, .int a3)]) hx hb dX9_stonesOf_52 rfl hl (Nat.le_of_ble_eq_true rfl) rfl (fun ls hl => ?_)
          exact hb53 _ _ _ hF _ _ _ (lv_sub hl [1, 2, 0, 3] rfl) hP hS
  refine lv_aload_n hx hb dX9_stonesOf_0 rfl (lv_at hl 0 rfl) ?_
  refine gf9_10 Z hP wd_2_21 dX9_stonesOf_1 ?_
  refine lv_aload_n hx hb dX9_stonesOf_4 rfl (lv_at hl 0 rfl) ?_
  refine gf9_1 Z hP wd_1_19 dX9_stonesOf_5 ?_
  obtain ⟨q8, hq8, hF⟩ := bd_ok hF
  refine xX8_become Z hP hS ck_79 ck_6 hq8 wd_34_2 hl.1 (Nat.le_of_ble_eq_true rfl) ⟨Nat.le_of_ble_eq_true rfl, Nat.le_of_ble_eq_true rfl⟩ dX9_stonesOf_8 (fun H locs hP hS => ?_)
  refine lv_iconst (v := (0 : Int32)) hx hb dX9_stonesOf_11 ic_0 ?_
  refine lv_istore_n (lv' := [(2, .int (0 : Int32)), (0, .ref (g.1 0)), (1, .int v1)]) hx hb dX9_stonesOf_12 rfl hl (Nat.le_of_ble_eq_true rfl) rfl (fun ls hl => ?_)
  refine lv_iconst (v := (0 : Int32)) hx hb dX9_stonesOf_13 ic_0 ?_
  refine lv_istore_n (lv' := [(3, .int (0 : Int32)), (2, .int (0 : Int32)), (0, .ref (g.1 0)), (1, .int v1)]) hx hb dX9_stonesOf_14 rfl hl (Nat.le_of_ble_eq_true rfl) rfl (fun ls hl => ?_)
  exact (hL15 FU) _ _ _ hF _ _ _ (lv_sub hl [2, 3, 1, 0] rfl) hP hS
theorem xX9_stonesOf {p : Program} {l : Launch} {e : Env} {R : Room} {s : State} {m : MethodId} {args : Array Value} {below : List Frame} {meth : Method} {c : Code} {H : Heap} {locs : List Loc} {Q : State → Prop} {cc : ByteArray} {nL : Nat} {own : String} {g : GG} {pc index : Nat} {ls : Array Slot} {rest : List Value} {mc mm : Mem} (Z : ZZ p s m args c cc nL own g) (hP : va_P g.2.2.1 vwCl (wL g mc mm) H) (hS : va_S (AA g s.heap.size) s.heap H locs) {v1 : Int32} {q : Int32 × Mem} (hq : F9_stonesOf v1 mc = some q) (hlk : Cond.methodLink own index yX9_stonesOf ∈ wsL_law) (hsz : ls.size = nL) (hro : (rest.map fun v => v.category).sum ≤ 8) (hR : 3 + 1 ≤ R.frames ∧ 8 + (4 + 11) + 82 ≤ R.locals) (hdg : decode cc pc = .ok (.invokevirtual index, 3)) (kk : ∀ (H : Heap) (locs : List Loc), va_P g.2.2.1 vwCl (wL g q.2 mm) H → va_S (AA g s.heap.size) s.heap H locs → W p l e R s m args below meth c H locs 0 0 Q (F0 m (pc + 3) ls (.int q.1 :: rest))) : W p l e R s m args below meth c H locs 0 0 Q (F0 m pc ls (.int v1 :: .ref (g.1 0) :: rest)) :=
  x_VI Z hP hS (kX9_stonesOf l g v1 mc mm q hq) (isO_w ck_0) (ci := 9) (by decide) rfl rfl mf_X9_stonesOf mv_X9_stonesOf hlk rfl rfl hsz hro hR hdg kk

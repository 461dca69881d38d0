theorem dX10_alike_0 : decode cX10_alike 0 = .ok (.iconst 0, 1) := by decide +kernel
theorem dX10_alike_1 : decode cX10_alike 1 = .ok (.istore_n 3, 1) := by decide +kernel
theorem dX10_alike_2 : decode cX10_alike 2 = .ok (.iconst 0, 1) := by decide +kernel
theorem dX10_alike_3 : decode cX10_alike 3 = .ok (.istore 4, 2) := by decide +kernel
theorem dX10_alike_5 : decode cX10_alike 5 = .ok (.iload 4, 2) := by decide +kernel
theorem dX10_alike_7 : decode cX10_alike 7 = .ok (.bipush 10, 2) := by decide +kernel
theorem dX10_alike_9 : decode cX10_alike 9 = .ok (.if_icmp .ge 90, 3) := by decide +kernel
theorem dX10_alike_12 : decode cX10_alike 12 = .ok (.iconst 0, 1) := by decide +kernel
theorem dX10_alike_13 : decode cX10_alike 13 = .ok (.istore 5, 2) := by decide +kernel
theorem dX10_alike_15 : decode cX10_alike 15 = .ok (.iconst 0, 1) := by decide +kernel
theorem dX10_alike_16 : decode cX10_alike 16 = .ok (.istore 6, 2) := by decide +kernel
theorem dX10_alike_18 : decode cX10_alike 18 = .ok (.iload 6, 2) := by decide +kernel
theorem dX10_alike_20 : decode cX10_alike 20 = .ok (.bipush 10, 2) := by decide +kernel
theorem dX10_alike_22 : decode cX10_alike 22 = .ok (.if_icmp .ge 64, 3) := by decide +kernel
theorem dX10_alike_25 : decode cX10_alike 25 = .ok (.iload 5, 2) := by decide +kernel
theorem dX10_alike_27 : decode cX10_alike 27 = .ok (.iload_n 1, 1) := by decide +kernel
theorem dX10_alike_28 : decode cX10_alike 28 = .ok (.iload 4, 2) := by decide +kernel
theorem dX10_alike_30 : decode cX10_alike 30 = .ok (.invokestatic 190, 3) := by decide +kernel
theorem dX10_alike_33 : decode cX10_alike 33 = .ok (.ifCond .eq 43, 3) := by decide +kernel
theorem dX10_alike_36 : decode cX10_alike 36 = .ok (.iload_n 1, 1) := by decide +kernel
theorem dX10_alike_37 : decode cX10_alike 37 = .ok (.iload 6, 2) := by decide +kernel
theorem dX10_alike_39 : decode cX10_alike 39 = .ok (.invokestatic 190, 3) := by decide +kernel
theorem dX10_alike_42 : decode cX10_alike 42 = .ok (.ifCond .eq 34, 3) := by decide +kernel
theorem dX10_alike_45 : decode cX10_alike 45 = .ok (.aload_n 0, 1) := by decide +kernel
theorem dX10_alike_46 : decode cX10_alike 46 = .ok (.getfield 71, 3) := by decide +kernel
theorem dX10_alike_49 : decode cX10_alike 49 = .ok (.bipush 40, 2) := by decide +kernel
theorem dX10_alike_51 : decode cX10_alike 51 = .ok (.iload 4, 2) := by decide +kernel
theorem dX10_alike_53 : decode cX10_alike 53 = .ok (.imul, 1) := by decide +kernel
theorem dX10_alike_54 : decode cX10_alike 54 = .ok (.iload_n 2, 1) := by decide +kernel
theorem dX10_alike_55 : decode cX10_alike 55 = .ok (.iadd, 1) := by decide +kernel
theorem dX10_alike_56 : decode cX10_alike 56 = .ok (.iaload, 1) := by decide +kernel
theorem dX10_alike_57 : decode cX10_alike 57 = .ok (.aload_n 0, 1) := by decide +kernel
theorem dX10_alike_58 : decode cX10_alike 58 = .ok (.getfield 71, 3) := by decide +kernel
theorem dX10_alike_61 : decode cX10_alike 61 = .ok (.bipush 40, 2) := by decide +kernel
theorem dX10_alike_63 : decode cX10_alike 63 = .ok (.iload 6, 2) := by decide +kernel
theorem dX10_alike_65 : decode cX10_alike 65 = .ok (.imul, 1) := by decide +kernel
theorem dX10_alike_66 : decode cX10_alike 66 = .ok (.iload_n 2, 1) := by decide +kernel
theorem dX10_alike_67 : decode cX10_alike 67 = .ok (.iadd, 1) := by decide +kernel
theorem dX10_alike_68 : decode cX10_alike 68 = .ok (.iaload, 1) := by decide +kernel
theorem dX10_alike_69 : decode cX10_alike 69 = .ok (.if_icmp .ne 7, 3) := by decide +kernel
theorem dX10_alike_72 : decode cX10_alike 72 = .ok (.iconst 1, 1) := by decide +kernel
theorem dX10_alike_73 : decode cX10_alike 73 = .ok (.goto 4, 3) := by decide +kernel
theorem dX10_alike_76 : decode cX10_alike 76 = .ok (.iconst 0, 1) := by decide +kernel
theorem dX10_alike_77 : decode cX10_alike 77 = .ok (.iadd, 1) := by decide +kernel
theorem dX10_alike_78 : decode cX10_alike 78 = .ok (.istore 5, 2) := by decide +kernel
theorem dX10_alike_80 : decode cX10_alike 80 = .ok (.iinc 6 1, 3) := by decide +kernel
theorem dX10_alike_83 : decode cX10_alike 83 = .ok (.goto (-65), 3) := by decide +kernel
theorem dX10_alike_86 : decode cX10_alike 86 = .ok (.iload 5, 2) := by decide +kernel
theorem dX10_alike_88 : decode cX10_alike 88 = .ok (.iload_n 3, 1) := by decide +kernel
theorem dX10_alike_89 : decode cX10_alike 89 = .ok (.invokestatic 265, 3) := by decide +kernel
theorem dX10_alike_92 : decode cX10_alike 92 = .ok (.istore_n 3, 1) := by decide +kernel
theorem dX10_alike_93 : decode cX10_alike 93 = .ok (.iinc 4 1, 3) := by decide +kernel
theorem dX10_alike_96 : decode cX10_alike 96 = .ok (.goto (-91), 3) := by decide +kernel
theorem dX10_alike_99 : decode cX10_alike 99 = .ok (.iload_n 3, 1) := by decide +kernel
theorem dX10_alike_100 : decode cX10_alike 100 = .ok (.ireturn, 1) := by decide +kernel
noncomputable def F10_alike_b86 (kh : Int32 → Int32 → Option (Int32)) (v1 : Int32) (v2 : Int32) (mm : Mem) (a3 : Int32) (a4 : Int32) (a5 : Int32) : Option (Int32) :=
  ((F10_greater a5 a3).bind (fun q6 => (kh q6 (a4 + (1 : Int32)))))
noncomputable def F10_alike_b77 (kh : Int32 → Int32 → Int32 → Int32 → Option (Int32)) (kx86 : Int32 → Int32 → Int32 → Option (Int32)) (v1 : Int32) (v2 : Int32) (mm : Mem) (a3 : Int32) (a4 : Int32) (a6 : Int32) (s0 : Int32) (s1 : Int32) : Option (Int32) :=
  kh a3 a4 (s0 + s1) (a6 + (1 : Int32))
noncomputable def F10_alike_b76 (kh : Int32 → Int32 → Int32 → Int32 → Option (Int32)) (kx86 : Int32 → Int32 → Int32 → Option (Int32)) (v1 : Int32) (v2 : Int32) (mm : Mem) (a3 : Int32) (a4 : Int32) (a6 : Int32) (s0 : Int32) : Option (Int32) :=
  (F10_alike_b77 kh kx86 v1 v2 mm) a3 a4 a6 s0 (0 : Int32)
noncomputable def F10_alike_p18 (kh : Int32 → Int32 → Int32 → Int32 → Option (Int32)) (kx86 : Int32 → Int32 → Int32 → Option (Int32)) (v1 : Int32) (v2 : Int32) (mm : Mem) (a3 : Int32) (a4 : Int32) (a5 : Int32) (a6 : Int32) : Option (Int32) :=
  (if (10 : Int32) ≤ a6 then kx86 a3 a4 a5 else ((F10_isIn v1 a4).bind (fun q7 => (if q7 = (0 : Int32) then (F10_alike_b76 kh kx86 v1 v2 mm) a3 a4 a6 a5 else ((F10_isIn v1 a6).bind (fun q8 => (if q8 = (0 : Int32) then (F10_alike_b76 kh kx86 v1 v2 mm) a3 a4 a6 a5 else (ck (((40 : Int32) * a4) + v2) 400 (ck (((40 : Int32) * a6) + v2) 400 (if (mm 21 (((40 : Int32) * a4) + v2).toNatClampNeg) = (mm 21 (((40 : Int32) * a6) + v2).toNatClampNeg) then (F10_alike_b77 kh kx86 v1 v2 mm) a3 a4 a6 a5 (1 : Int32) else (F10_alike_b76 kh kx86 v1 v2 mm) a3 a4 a6 a5))))))))))
noncomputable def F10_alike_h18 (kx86 : Int32 → Int32 → Int32 → Option (Int32)) (v1 : Int32) (v2 : Int32) (mm : Mem) : Nat → Int32 → Int32 → Int32 → Int32 → Option (Int32)
  | 0, _, _, _, _ => none
  | n + 1, a3, a4, a5, a6 => F10_alike_p18 (F10_alike_h18 kx86 v1 v2 mm n) kx86 v1 v2 mm a3 a4 a5 a6
noncomputable def F10_alike_p5 (kh : Int32 → Int32 → Option (Int32)) (v1 : Int32) (v2 : Int32) (mm : Mem) (a3 : Int32) (a4 : Int32) : Option (Int32) :=
  (if (10 : Int32) ≤ a4 then some a3 else (F10_alike_h18 (F10_alike_b86 kh v1 v2 mm) v1 v2 mm FU) a3 a4 (0 : Int32) (0 : Int32))
noncomputable def F10_alike_h5 (v1 : Int32) (v2 : Int32) (mm : Mem) : Nat → Int32 → Int32 → Option (Int32)
  | 0, _, _ => none
  | n + 1, a3, a4 => F10_alike_p5 (F10_alike_h5 v1 v2 mm n) v1 v2 mm a3 a4
noncomputable def F10_alike (v1 : Int32) (v2 : Int32) (mm : Mem) : Option (Int32) :=
  (F10_alike_h5 v1 v2 mm FU) (0 : Int32) (0 : Int32)
set_option maxHeartbeats 4000000 in
set_option maxRecDepth 100000 in
theorem kX10_alike (l : Launch) (g : GG) (v1 : Int32) (v2 : Int32) (mc mm : Mem) (q : Int32) (hF : F10_alike v1 v2 mm = some q) : KI l yX10_alike cX10_alike 7 .int 1 21 g [.ref (g.1 108), .int v1, .int v2] mc mm q (mc, mm) := by
  intro sz
  refine x_start (Qc := fun z => QI g z q (mc, mm)) (by decide +kernel) (Nat.le_of_ble_eq_true rfl) ?_ sz
  intro p e s m args below meth c ls Z hr hlk hP hl
  have hx := Z.1.1
  have hb := Z.1.2.1
  have hown := Z.1.2.2.2.1
  have hts := Z.1.2.2.2.2
  have hS : va_S (AA g s.heap.size) s.heap s.heap [] := va_S.rf
  have hl : lv_has ls 7 [(0, .ref (g.1 108)), (1, .int v1), (2, .int v2)] := hl
  unfold F10_alike at hF
  have hL5 : ∀ n : Nat, ∀ (a3 : Int32) (a4 : Int32), F10_alike_h5 v1 v2 mm n a3 a4 = some q → ∀ (H : Heap) (locs : List Loc) (ls : Array Slot), lv_has ls 7 [(0, .ref (g.1 108)), (1, .int v1), (2, .int v2), (3, .int a3), (4, .int a4)] → va_P g.2.2.1 vwCl (wL g mc mm) H → va_S (AA g s.heap.size) s.heap H locs → W p l e { frames := 1, cells := 0, slots := 0, locals := 21 } s m args below meth c H locs 0 0 (MQ below (QI g s.heap.size q (mc, mm)) args s 0 0 (AA g s.heap.size)) (F0 m 5 ls []) := by
    intro n
    induction n with
    | zero => intro a3 a4 hF H locs ls hl hP hS; exact absurd hF (fun z => nomatch (show (none : Option _) = some q from z))
    | succ n ih =>
      generalize hkh : F10_alike_h5 v1 v2 mm n = kh at ih
      have hb86 : ∀ (a3 : Int32) (a4 : Int32) (a5 : Int32), F10_alike_b86 kh v1 v2 mm a3 a4 a5 = some q → ∀ (H : Heap) (locs : List Loc) (ls : Array Slot), lv_has ls 7 [(0, .ref (g.1 108)), (1, .int v1), (2, .int v2), (3, .int a3), (4, .int a4), (5, .int a5)] → va_P g.2.2.1 vwCl (wL g mc mm) H → va_S (AA g s.heap.size) s.heap H locs → W p l e { frames := 1, cells := 0, slots := 0, locals := 21 } s m args below meth c H locs 0 0 (MQ below (QI g s.heap.size q (mc, mm)) args s 0 0 (AA g s.heap.size)) (F0 m 86 ls []) := by
        intro a3 a4 a5 hF H locs ls hl hP hS
        unfold F10_alike_b86 at hF
        refine lv_iload hx hb dX10_alike_86 (lv_at hl 5 rfl) ?_
        refine lv_iload_n hx hb dX10_alike_88 rfl (lv_at hl 3 rfl) ?_
        obtain ⟨q6, hq6, hF⟩ := bd_ok hF
        refine xX10_greater Z hP hS hq6 wd_29_13 hl.1 (Nat.le_of_ble_eq_true rfl) ⟨Nat.le_of_ble_eq_true rfl, Nat.le_of_ble_eq_true rfl⟩ dX10_alike_89 (fun H locs hP hS => ?_)
        refine lv_istore_n (lv' := [(3, .int q6), (0, .ref (g.1 108)), (1, .int v1), (2, .int v2), (4, .int a4), (5, .int a5)]) hx hb dX10_alike_92 rfl hl (Nat.le_of_ble_eq_true rfl) rfl (fun ls hl => ?_)
        refine lv_iinc (lv' := [(4, .int (a4 + (1 : Int32))), (3, .int q6), (0, .ref (g.1 108)), (1, .int v1), (2, .int v2), (5, .int a5)]) (v := (a4 + (1 : Int32))) hx hb dX10_alike_93 hl (k := 4) rfl (io_1 _) (Nat.le_of_ble_eq_true rfl) rfl (fun ls hl => ?_)
        refine lv_goto (tgt := 5) hx hb dX10_alike_96 rfl ?_
        exact ih _ _ hF _ _ _ (lv_sub hl [2, 3, 4, 1, 0] rfl) hP hS
      have hL18 : ∀ (kx86 : Int32 → Int32 → Int32 → Option (Int32)), (∀ (a3 : Int32) (a4 : Int32) (a5 : Int32), kx86 a3 a4 a5 = some q → ∀ (H : Heap) (locs : List Loc) (ls : Array Slot), lv_has ls 7 [(0, .ref (g.1 108)), (1, .int v1), (2, .int v2), (3, .int a3), (4, .int a4), (5, .int a5)] → va_P g.2.2.1 vwCl (wL g mc mm) H → va_S (AA g s.heap.size) s.heap H locs → W p l e { frames := 1, cells := 0, slots := 0, locals := 21 } s m args below meth c H locs 0 0 (MQ below (QI g s.heap.size q (mc, mm)) args s 0 0 (AA g s.heap.size)) (F0 m 86 ls [])) → ∀ n : Nat, ∀ (a3 : Int32) (a4 : Int32) (a5 : Int32) (a6 : Int32), F10_alike_h18 kx86 v1 v2 mm n a3 a4 a5 a6 = some q → ∀ (H : Heap) (locs : List Loc) (ls : Array Slot), lv_has ls 7 [(0, .ref (g.1 108)), (1, .int v1), (2, .int v2), (3, .int a3), (4, .int a4), (5, .int a5), (6, .int a6)] → va_P g.2.2.1 vwCl (wL g mc mm) H → va_S (AA g s.heap.size) s.heap H locs → W p l e { frames := 1, cells := 0, slots := 0, locals := 21 } s m args below meth c H locs 0 0 (MQ below (QI g s.heap.size q (mc, mm)) args s 0 0 (AA g s.heap.size)) (F0 m 18 ls []) := by
        intro kx86 hx86 n
        induction n with
        | zero => intro a3 a4 a5 a6 hF H locs ls hl hP hS; exact absurd hF (fun z => nomatch (show (none : Option _) = some q from z))
        | succ n ih =>
          generalize hkh : F10_alike_h18 kx86 v1 v2 mm n = kh at ih
          have hb77 : ∀ (a3 : Int32) (a4 : Int32) (a6 : Int32) (s0 : Int32) (s1 : Int32), F10_alike_b77 kh kx86 v1 v2 mm a3 a4 a6 s0 s1 = some q → ∀ (H : Heap) (locs : List Loc) (ls : Array Slot), lv_has ls 7 [(0, .ref (g.1 108)), (1, .int v1), (2, .int v2), (3, .int a3), (4, .int a4), (6, .int a6)] → va_P g.2.2.1 vwCl (wL g mc mm) H → va_S (AA g s.heap.size) s.heap H locs → W p l e { frames := 1, cells := 0, slots := 0, locals := 21 } s m args below meth c H locs 0 0 (MQ below (QI g s.heap.size q (mc, mm)) args s 0 0 (AA g s.heap.size)) (F0 m 77 ls [.int s1, .int s0]) := by
            intro a3 a4 a6 s0 s1 hF H locs ls hl hP hS
            unfold F10_alike_b77 at hF
            refine lv_iadd hx hb dX10_alike_77 ?_
            refine lv_istore (lv' := [(5, .int (s0 + s1)), (0, .ref (g.1 108)), (1, .int v1), (2, .int v2), (3, .int a3), (4, .int a4), (6, .int a6)]) hx hb dX10_alike_78 hl (Nat.le_of_ble_eq_true rfl) rfl (fun ls hl => ?_)
            refine lv_iinc (lv' := [(6, .int (a6 + (1 : Int32))), (5, .int (s0 + s1)), (0, .ref (g.1 108)), (1, .int v1), (2, .int v2), (3, .int a3), (4, .int a4)]) (v := (a6 + (1 : Int32))) hx hb dX10_alike_80 hl (k := 6) rfl (io_1 _) (Nat.le_of_ble_eq_true rfl) rfl (fun ls hl => ?_)
            refine lv_goto (tgt := 18) hx hb dX10_alike_83 rfl ?_
            exact ih _ _ _ _ hF _ _ _ (lv_sub hl [2, 3, 4, 5, 6, 1, 0] rfl) hP hS
          have hb76 : ∀ (a3 : Int32) (a4 : Int32) (a6 : Int32) (s0 : Int32), F10_alike_b76 kh kx86 v1 v2 mm a3 a4 a6 s0 = some q → ∀ (H : Heap) (locs : List Loc) (ls : Array Slot), lv_has ls 7 [(0, .ref (g.1 108)), (1, .int v1), (2, .int v2), (3, .int a3), (4, .int a4), (6, .int a6)] → va_P g.2.2.1 vwCl (wL g mc mm) H → va_S (AA g s.heap.size) s.heap H locs → W p l e { frames := 1, cells := 0, slots := 0, locals := 21 } s m args below meth c H locs 0 0 (MQ below (QI g s.heap.size q (mc, mm)) args s 0 0 (AA g s.heap.size)) (F0 m 76 ls [.int s0]) := by
            intro a3 a4 a6 s0 hF H locs ls hl hP hS
            unfold F10_alike_b76 at hF
            refine lv_iconst (v := (0 : Int32)) hx hb dX10_alike_76 ic_0 ?_
            exact hb77 _ _ _ _ _ hF _ _ _ (lv_sub hl [0, 1, 2, 3, 4, 5] rfl) hP hS
          intro a3 a4 a5 a6 hF H locs ls hl hP hS
          have hF : F10_alike_p18 (F10_alike_h18 kx86 v1 v2 mm n) kx86 v1 v2 mm a3 a4 a5 a6 = some q := hF
          rw [hkh] at hF
          unfold F10_alike_p18 at hF
          refine lv_iload hx hb dX10_alike_18 (lv_at hl 6 rfl) ?_
          refine lv_bipush (v := (10 : Int32)) hx hb dX10_alike_20 bp_10 ?_
          refine lv_icmp_ge (tgt := 86) hx hb dX10_alike_22 rfl (fun hc => ?_) (fun hc => ?_)
          · have hF := (if_pos hc).symm.trans hF
            exact hx86 _ _ _ hF _ _ _ (lv_sub hl [0, 1, 2, 3, 4, 5] rfl) hP hS
          · have hF := (if_neg hc).symm.trans hF
            refine lv_iload hx hb dX10_alike_25 (lv_at hl 5 rfl) ?_
            refine lv_iload_n hx hb dX10_alike_27 rfl (lv_at hl 1 rfl) ?_
            refine lv_iload hx hb dX10_alike_28 (lv_at hl 4 rfl) ?_
            obtain ⟨q7, hq7, hF⟩ := bd_ok hF
            refine xX10_isIn Z hP hS hq7 wd_23_2 hl.1 (Nat.le_of_ble_eq_true rfl) ⟨Nat.le_of_ble_eq_true rfl, Nat.le_of_ble_eq_true rfl⟩ dX10_alike_30 (fun H locs hP hS => ?_)
            refine lv_if_eq (tgt := 76) hx hb dX10_alike_33 rfl (fun hc => ?_) (fun hc => ?_)
            · have hF := (if_pos hc).symm.trans hF
              exact hb76 _ _ _ _ hF _ _ _ (lv_sub hl [0, 1, 2, 3, 4, 6] rfl) hP hS
            · have hF := (if_neg hc).symm.trans hF
              refine lv_iload_n hx hb dX10_alike_36 rfl (lv_at hl 1 rfl) ?_
              refine lv_iload hx hb dX10_alike_37 (lv_at hl 6 rfl) ?_
              obtain ⟨q8, hq8, hF⟩ := bd_ok hF
              refine xX10_isIn Z hP hS hq8 wd_23_2 hl.1 (Nat.le_of_ble_eq_true rfl) ⟨Nat.le_of_ble_eq_true rfl, Nat.le_of_ble_eq_true rfl⟩ dX10_alike_39 (fun H locs hP hS => ?_)
              refine lv_if_eq (tgt := 76) hx hb dX10_alike_42 rfl (fun hc => ?_) (fun hc => ?_)
              · have hF := (if_pos hc).symm.trans hF
                exact hb76 _ _ _ _ hF _ _ _ (lv_sub hl [0, 1, 2, 3, 4, 6] rfl) hP hS
              · have hF := (if_neg hc).symm.trans hF
                refine lv_aload_n hx hb dX10_alike_45 rfl (lv_at hl 0 rfl) ?_
                refine gf10_28 Z hP wd_7_0 dX10_alike_46 ?_
                refine lv_bipush (v := (40 : Int32)) hx hb dX10_alike_49 bp_40 ?_
                refine lv_iload hx hb dX10_alike_51 (lv_at hl 4 rfl) ?_
                refine lv_imul hx hb dX10_alike_53 ?_
                refine lv_iload_n hx hb dX10_alike_54 rfl (lv_at hl 2 rfl) ?_
                refine lv_iadd hx hb dX10_alike_55 ?_
                obtain ⟨hi9, hF⟩ := ck_ok hF
                refine rM_ld Z hP 400 21 (by decide +kernel) hi9 dX10_alike_56 ?_
                refine lv_aload_n hx hb dX10_alike_57 rfl (lv_at hl 0 rfl) ?_
                refine gf10_28 Z hP wd_7_0 dX10_alike_58 ?_
                refine lv_bipush (v := (40 : Int32)) hx hb dX10_alike_61 bp_40 ?_
                refine lv_iload hx hb dX10_alike_63 (lv_at hl 6 rfl) ?_
                refine lv_imul hx hb dX10_alike_65 ?_
                refine lv_iload_n hx hb dX10_alike_66 rfl (lv_at hl 2 rfl) ?_
                refine lv_iadd hx hb dX10_alike_67 ?_
                obtain ⟨hi10, hF⟩ := ck_ok hF
                refine rM_ld Z hP 400 21 (by decide +kernel) hi10 dX10_alike_68 ?_
                refine lv_icmp_ne (tgt := 76) hx hb dX10_alike_69 rfl (fun hc => ?_) (fun hc => ?_)
                · have hF := (if_neg hc).symm.trans hF
                  exact hb76 _ _ _ _ hF _ _ _ (lv_sub hl [0, 1, 2, 3, 4, 6] rfl) hP hS
                · have hF := (if_pos hc).symm.trans hF
                  refine lv_iconst (v := (1 : Int32)) hx hb dX10_alike_72 ic_1 ?_
                  refine lv_goto (tgt := 77) hx hb dX10_alike_73 rfl ?_
                  exact hb77 _ _ _ _ _ hF _ _ _ (lv_sub hl [0, 1, 2, 3, 4, 6] rfl) hP hS
      intro a3 a4 hF H locs ls hl hP hS
      have hF : F10_alike_p5 (F10_alike_h5 v1 v2 mm n) v1 v2 mm a3 a4 = some q := hF
      rw [hkh] at hF
      unfold F10_alike_p5 at hF
      refine lv_iload hx hb dX10_alike_5 (lv_at hl 4 rfl) ?_
      refine lv_bipush (v := (10 : Int32)) hx hb dX10_alike_7 bp_10 ?_
      refine lv_icmp_ge (tgt := 99) hx hb dX10_alike_9 rfl (fun hc => ?_) (fun hc => ?_)
      · have hF := (if_pos hc).symm.trans hF
        refine lv_iload_n hx hb dX10_alike_99 rfl (lv_at hl 3 rfl) ?_
        exact ret_I Z hr hlk hP hS hF dX10_alike_100
      · have hF := (if_neg hc).symm.trans hF
        refine lv_iconst (v := (0 : Int32)) hx hb dX10_alike_12 ic_0 ?_
        refine lv_istore (lv' := [(5, .int (0 : Int32)), (0, .ref (g.1 108)), (1, .int v1), (2, .int v2), (3, .int a3), (4, .int a4)]) hx hb dX10_alike_13 hl (Nat.le_of_ble_eq_true rfl) rfl (fun ls hl => ?_)
        refine lv_iconst (v := (0 : Int32)) hx hb dX10_alike_15 ic_0 ?_
        refine lv_istore (lv' := [(6, .int (0 : Int32)), (5, .int (0 : Int32)), (0, .ref (g.1 108)), (1, .int v1), (2, .int v2), (3, .int a3), (4, .int a4)]) hx hb dX10_alike_16 hl (Nat.le_of_ble_eq_true rfl) rfl (fun ls hl => ?_)
        exact (hL18 _ hb86 FU) _ _ _ _ hF _ _ _ (lv_sub hl [2, 3, 4, 5, 6, 1, 0] rfl) hP hS
  refine lv_iconst (v := (0 : Int32)) hx hb dX10_alike_0 ic_0 ?_
  refine lv_istore_n (lv' := [(3, .int (0 : Int32)), (0, .ref (g.1 108)), (1, .int v1), (2, .int v2)]) hx hb dX10_alike_1 rfl hl (Nat.le_of_ble_eq_true rfl) rfl (fun ls hl => ?_)
  refine lv_iconst (v := (0 : Int32)) hx hb dX10_alike_2 ic_0 ?_
  refine lv_istore (lv' := [(4, .int (0 : Int32)), (3, .int (0 : Int32)), (0, .ref (g.1 108)), (1, .int v1), (2, .int v2)]) hx hb dX10_alike_3 hl (Nat.le_of_ble_eq_true rfl) rfl (fun ls hl => ?_)
  exact (hL5 FU) _ _ hF _ _ _ (lv_sub hl [2, 3, 4, 1, 0] rfl) hP hS
theorem xX10_alike {p : Program} {l : Launch} {e : Env} {R : Room} {s : State} {m : MethodId} {args : Array Value} {below : List Frame} {meth : Method} {c : Code} {H : Heap} {locs : List Loc} {Q : State → Prop} {cc : ByteArray} {nL : Nat} {own : String} {g : GG} {pc index : Nat} {ls : Array Slot} {rest : List Value} {mc mm : Mem} (Z : ZZ p s m args c cc nL own g) (hP : va_P g.2.2.1 vwCl (wL g mc mm) H) (hS : va_S (AA g s.heap.size) s.heap H locs) {v1 : Int32} {v2 : Int32} {q : Int32} (hq : F10_alike v1 v2 mm = some q) (hlk : Cond.methodLink own index yX10_alike ∈ wsL_law) (hsz : ls.size = nL) (hro : (rest.map fun v => v.category).sum ≤ 8) (hR : 1 + 1 ≤ R.frames ∧ 8 + (7 + 11) + 21 ≤ R.locals) (hdg : decode cc pc = .ok (.invokevirtual index, 3)) (kk : ∀ (H : Heap) (locs : List Loc), va_P g.2.2.1 vwCl (wL g mc mm) H → va_S (AA g s.heap.size) s.heap H locs → W p l e R s m args below meth c H locs 0 0 Q (F0 m (pc + 3) ls (.int q :: rest))) : W p l e R s m args below meth c H locs 0 0 Q (F0 m pc ls (.int v2 :: .int v1 :: .ref (g.1 108) :: rest)) :=
  x_VI Z hP hS (kX10_alike l g v1 v2 mc mm q hq) (mO) (ci := 10) (by decide) rfl rfl mf_X10_alike mv_X10_alike hlk rfl rfl hsz hro hR hdg kk
theorem dX10_askOf_0 : decode cX10_askOf 0 = .ok (.aload_n 0, 1) := by decide +kernel
theorem dX10_askOf_1 : decode cX10_askOf 1 = .ok (.iload_n 1, 1) := by decide +kernel
theorem dX10_askOf_2 : decode cX10_askOf 2 = .ok (.invokevirtual 301, 3) := by decide +kernel
theorem dX10_askOf_5 : decode cX10_askOf 5 = .ok (.istore_n 2, 1) := by decide +kernel
theorem dX10_askOf_6 : decode cX10_askOf 6 = .ok (.iconst 0, 1) := by decide +kernel
theorem dX10_askOf_7 : decode cX10_askOf 7 = .ok (.istore_n 3, 1) := by decide +kernel
theorem dX10_askOf_8 : decode cX10_askOf 8 = .ok (.iconst 1, 1) := by decide +kernel
theorem dX10_askOf_9 : decode cX10_askOf 9 = .ok (.istore 4, 2) := by decide +kernel
theorem dX10_askOf_11 : decode cX10_askOf 11 = .ok (.iload 4, 2) := by decide +kernel
theorem dX10_askOf_13 : decode cX10_askOf 13 = .ok (.bipush 40, 2) := by decide +kernel
theorem dX10_askOf_15 : decode cX10_askOf 15 = .ok (.if_icmp .ge 32, 3) := by decide +kernel
theorem dX10_askOf_18 : decode cX10_askOf 18 = .ok (.aload_n 0, 1) := by decide +kernel
theorem dX10_askOf_19 : decode cX10_askOf 19 = .ok (.iload_n 2, 1) := by decide +kernel
theorem dX10_askOf_20 : decode cX10_askOf 20 = .ok (.iload 4, 2) := by decide +kernel
theorem dX10_askOf_22 : decode cX10_askOf 22 = .ok (.invokevirtual 310, 3) := by decide +kernel
theorem dX10_askOf_25 : decode cX10_askOf 25 = .ok (.aload_n 0, 1) := by decide +kernel
theorem dX10_askOf_26 : decode cX10_askOf 26 = .ok (.iload_n 2, 1) := by decide +kernel
theorem dX10_askOf_27 : decode cX10_askOf 27 = .ok (.iload_n 3, 1) := by decide +kernel
theorem dX10_askOf_28 : decode cX10_askOf 28 = .ok (.invokevirtual 310, 3) := by decide +kernel
theorem dX10_askOf_31 : decode cX10_askOf 31 = .ok (.if_icmp .ge 8, 3) := by decide +kernel
theorem dX10_askOf_34 : decode cX10_askOf 34 = .ok (.iload 4, 2) := by decide +kernel
theorem dX10_askOf_36 : decode cX10_askOf 36 = .ok (.goto 4, 3) := by decide +kernel
theorem dX10_askOf_39 : decode cX10_askOf 39 = .ok (.iload_n 3, 1) := by decide +kernel
theorem dX10_askOf_40 : decode cX10_askOf 40 = .ok (.istore_n 3, 1) := by decide +kernel
theorem dX10_askOf_41 : decode cX10_askOf 41 = .ok (.iinc 4 1, 3) := by decide +kernel
theorem dX10_askOf_44 : decode cX10_askOf 44 = .ok (.goto (-33), 3) := by decide +kernel
theorem dX10_askOf_47 : decode cX10_askOf 47 = .ok (.iload_n 3, 1) := by decide +kernel
theorem dX10_askOf_48 : decode cX10_askOf 48 = .ok (.ireturn, 1) := by decide +kernel
noncomputable def F10_askOf_b40 (kh : Int32 → Int32 → Int32 → Mem → Option (Int32 × Mem)) (v1 : Int32) (a2 : Int32) (a4 : Int32) (s0 : Int32) (M : Mem) : Option (Int32 × Mem) :=
  kh a2 s0 (a4 + (1 : Int32)) M
noncomputable def F10_askOf_p11 (kh : Int32 → Int32 → Int32 → Mem → Option (Int32 × Mem)) (v1 : Int32) (a2 : Int32) (a3 : Int32) (a4 : Int32) (M : Mem) : Option (Int32 × Mem) :=
  (if (40 : Int32) ≤ a4 then some (a3, M) else ((F10_alike a2 a4 M).bind (fun q4 => ((F10_alike a2 a3 M).bind (fun q5 => (if q5 ≤ q4 then (F10_askOf_b40 kh v1) a2 a4 a3 M else (F10_askOf_b40 kh v1) a2 a4 a4 M))))))
noncomputable def F10_askOf_h11 (v1 : Int32) : Nat → Int32 → Int32 → Int32 → Mem → Option (Int32 × Mem)
  | 0, _, _, _, _ => none
  | n + 1, a2, a3, a4, M => F10_askOf_p11 (F10_askOf_h11 v1 n) v1 a2 a3 a4 M
noncomputable def F10_askOf (v1 : Int32) (mm : Mem) : Option (Int32 × Mem) :=
  ((F10_stoodOf v1 mm).bind (fun q6 => ((F10_askOf_h11 v1 FU) q6.1 (0 : Int32) (1 : Int32) q6.2)))
set_option maxHeartbeats 4000000 in
set_option maxRecDepth 100000 in
theorem kX10_askOf (l : Launch) (g : GG) (v1 : Int32) (mc mm : Mem) (q : Int32 × Mem) (hF : F10_askOf v1 mm = some q) : KI l yX10_askOf cX10_askOf 5 .int 8 189 g [.ref (g.1 108), .int v1] mc mm q.1 (mc, q.2) := by
  intro sz
  refine x_start (Qc := fun z => QI g z q.1 (mc, q.2)) (by decide +kernel) (Nat.le_of_ble_eq_true rfl) ?_ sz
  intro p e s m args below meth c ls Z hr hlk hP hl
  have hx := Z.1.1
  have hb := Z.1.2.1
  have hown := Z.1.2.2.2.1
  have hts := Z.1.2.2.2.2
  have hS : va_S (AA g s.heap.size) s.heap s.heap [] := va_S.rf
  have hl : lv_has ls 5 [(0, .ref (g.1 108)), (1, .int v1)] := hl
  unfold F10_askOf at hF
  have hL11 : ∀ n : Nat, ∀ (a2 : Int32) (a3 : Int32) (a4 : Int32) (M : Mem), F10_askOf_h11 v1 n a2 a3 a4 M = some q → ∀ (H : Heap) (locs : List Loc) (ls : Array Slot), lv_has ls 5 [(0, .ref (g.1 108)), (2, .int a2), (3, .int a3), (4, .int a4)] → va_P g.2.2.1 vwCl (wL g mc M) H → va_S (AA g s.heap.size) s.heap H locs → W p l e { frames := 8, cells := 0, slots := 0, locals := 189 } s m args below meth c H locs 0 0 (MQ below (QI g s.heap.size q.1 (mc, q.2)) args s 0 0 (AA g s.heap.size)) (F0 m 11 ls []) := by
    intro n
    induction n with
    | zero => intro a2 a3 a4 M hF H locs ls hl hP hS; exact absurd hF (fun z => nomatch (show (none : Option _) = some q from z))
    | succ n ih =>
      generalize hkh : F10_askOf_h11 v1 n = kh at ih
      have hb40 : ∀ (a2 : Int32) (a4 : Int32) (s0 : Int32) (M : Mem), F10_askOf_b40 kh v1 a2 a4 s0 M = some q → ∀ (H : Heap) (locs : List Loc) (ls : Array Slot), lv_has ls 5 [(0, .ref (g.1 108)), (2, .int a2), (4, .int a4)] → va_P g.2.2.1 vwCl (wL g mc M) H → va_S (AA g s.heap.size) s.heap H locs → W p l e { frames := 8, cells := 0, slots := 0, locals := 189 } s m args below meth c H locs 0 0 (MQ below (QI g s.heap.size q.1 (mc, q.2)) args s 0 0 (AA g s.heap.size)) (F0 m 40 ls [.int s0]) := by
        intro a2 a4 s0 M hF H locs ls hl hP hS
        unfold F10_askOf_b40 at hF
        refine lv_istore_n (lv' := [(3, .int s0), (0, .ref (g.1 108)), (2, .int a2), (4, .int a4)]) hx hb dX10_askOf_40 rfl hl (Nat.le_of_ble_eq_true rfl) rfl (fun ls hl => ?_)
        refine lv_iinc (lv' := [(4, .int (a4 + (1 : Int32))), (3, .int s0), (0, .ref (g.1 108)), (2, .int a2)]) (v := (a4 + (1 : Int32))) hx hb dX10_askOf_41 hl (k := 3) rfl (io_1 _) (Nat.le_of_ble_eq_true rfl) rfl (fun ls hl => ?_)
        refine lv_goto (tgt := 11) hx hb dX10_askOf_44 rfl ?_
        exact ih _ _ _ _ hF _ _ _ (lv_sub hl [2, 3, 1, 0] rfl) hP hS
      intro a2 a3 a4 M hF H locs ls hl hP hS
      have hF : F10_askOf_p11 (F10_askOf_h11 v1 n) v1 a2 a3 a4 M = some q := hF
      rw [hkh] at hF
      unfold F10_askOf_p11 at hF
      refine lv_iload hx hb dX10_askOf_11 (lv_at hl 3 rfl) ?_
      refine lv_bipush (v := (40 : Int32)) hx hb dX10_askOf_13 bp_40 ?_
      refine lv_icmp_ge (tgt := 47) hx hb dX10_askOf_15 rfl (fun hc => ?_) (fun hc => ?_)
      · have hF := (if_pos hc).symm.trans hF
        refine lv_iload_n hx hb dX10_askOf_47 rfl (lv_at hl 2 rfl) ?_
        exact ret_IWM Z hr hlk hP hS hF dX10_askOf_48
      · have hF := (if_neg hc).symm.trans hF
        refine lv_aload_n hx hb dX10_askOf_18 rfl (lv_at hl 0 rfl) ?_
        refine lv_iload_n hx hb dX10_askOf_19 rfl (lv_at hl 1 rfl) ?_
        refine lv_iload hx hb dX10_askOf_20 (lv_at hl 3 rfl) ?_
        obtain ⟨q4, hq4, hF⟩ := bd_ok hF
        refine xX10_alike Z hP hS hq4 wd_36_15 hl.1 (Nat.le_of_ble_eq_true rfl) ⟨Nat.le_of_ble_eq_true rfl, Nat.le_of_ble_eq_true rfl⟩ dX10_askOf_22 (fun H locs hP hS => ?_)
        refine lv_aload_n hx hb dX10_askOf_25 rfl (lv_at hl 0 rfl) ?_
        refine lv_iload_n hx hb dX10_askOf_26 rfl (lv_at hl 1 rfl) ?_
        refine lv_iload_n hx hb dX10_askOf_27 rfl (lv_at hl 2 rfl) ?_
        obtain ⟨q5, hq5, hF⟩ := bd_ok hF
        refine xX10_alike Z hP hS hq5 wd_36_15 hl.1 (Nat.le_of_ble_eq_true rfl) ⟨Nat.le_of_ble_eq_true rfl, Nat.le_of_ble_eq_true rfl⟩ dX10_askOf_28 (fun H locs hP hS => ?_)
        refine lv_icmp_ge (tgt := 39) hx hb dX10_askOf_31 rfl (fun hc => ?_) (fun hc => ?_)
        · have hF := (if_pos hc).symm.trans hF
          refine lv_iload_n hx hb dX10_askOf_39 rfl (lv_at hl 2 rfl) ?_
          exact hb40 _ _ _ _ hF _ _ _ (lv_sub hl [0, 1, 3] rfl) hP hS
        · have hF := (if_neg hc).symm.trans hF
          refine lv_iload hx hb dX10_askOf_34 (lv_at hl 3 rfl) ?_
          refine lv_goto (tgt := 40) hx hb dX10_askOf_36 rfl ?_
          exact hb40 _ _ _ _ hF _ _ _ (lv_sub hl [0, 1, 3] rfl) hP hS
  refine lv_aload_n hx hb dX10_askOf_0 rfl (lv_at hl 0 rfl) ?_
  refine lv_iload_n hx hb dX10_askOf_1 rfl (lv_at hl 1 rfl) ?_
  obtain ⟨q6, hq6, hF⟩ := bd_ok hF
  refine xX10_stoodOf Z hP hS hq6 wd_35_2 hl.1 (Nat.le_of_ble_eq_true rfl) ⟨Nat.le_of_ble_eq_true rfl, Nat.le_of_ble_eq_true rfl⟩ dX10_askOf_2 (fun H locs hP hS => ?_)
  refine lv_istore_n (lv' := [(2, .int q6.1), (0, .ref (g.1 108)), (1, .int v1)]) hx hb dX10_askOf_5 rfl hl (Nat.le_of_ble_eq_true rfl) rfl (fun ls hl => ?_)
  refine lv_iconst (v := (0 : Int32)) hx hb dX10_askOf_6 ic_0 ?_
  refine lv_istore_n (lv' := [(3, .int (0 : Int32)), (2, .int q6.1), (0, .ref (g.1 108)), (1, .int v1)]) hx hb dX10_askOf_7 rfl hl (Nat.le_of_ble_eq_true rfl) rfl (fun ls hl => ?_)
  refine lv_iconst (v := (1 : Int32)) hx hb dX10_askOf_8 ic_1 ?_
  refine lv_istore (lv' := [(4, .int (1 : Int32)), (3, .int (0 : Int32)), (2, .int q6.1), (0, .ref (g.1 108)), (1, .int v1)]) hx hb dX10_askOf_9 hl (Nat.le_of_ble_eq_true rfl) rfl (fun ls hl => ?_)
  exact (hL11 FU) _ _ _ _ hF _ _ _ (lv_sub hl [3, 2, 1, 0] rfl) hP hS
theorem xX10_askOf {p : Program} {l : Launch} {e : Env} {R : Room} {s : State} {m : MethodId} {args : Array Value} {below : List Frame} {meth : Method} {c : Code} {H : Heap} {locs : List Loc} {Q : State → Prop} {cc : ByteArray} {nL : Nat} {own : String} {g : GG} {pc index : Nat} {ls : Array Slot} {rest : List Value} {mc mm : Mem} (Z : ZZ p s m args c cc nL own g) (hP : va_P g.2.2.1 vwCl (wL g mc mm) H) (hS : va_S (AA g s.heap.size) s.heap H locs) {v1 : Int32} {q : Int32 × Mem} (hq : F10_askOf v1 mm = some q) (hlk : Cond.methodLink own index yX10_askOf ∈ wsL_law) (hsz : ls.size = nL) (hro : (rest.map fun v => v.category).sum ≤ 8) (hR : 8 + 1 ≤ R.frames ∧ 8 + (5 + 11) + 189 ≤ R.locals) (hdg : decode cc pc = .ok (.invokevirtual index, 3)) (kk : ∀ (H : Heap) (locs : List Loc), va_P g.2.2.1 vwCl (wL g mc q.2) H → va_S (AA g s.heap.size) s.heap H locs → W p l e R s m args below meth c H locs 0 0 Q (F0 m (pc + 3) ls (.int q.1 :: rest))) : W p l e R s m args below meth c H locs 0 0 Q (F0 m pc ls (.int v1 :: .ref (g.1 108) :: rest)) :=
  x_VI Z hP hS (kX10_askOf l g v1 mc mm q hq) (mO) (ci := 10) (by decide) rfl rfl mf_X10_askOf mv_X10_askOf hlk rfl rfl hsz hro hR hdg kk
theorem dX10_ask_0 : decode cX10_ask 0 = .ok (.aload_n 0, 1) := by decide +kernel
theorem dX10_ask_1 : decode cX10_ask 1 = .ok (.invokevirtual 236, 3) := by decide +kernel
theorem dX10_ask_4 : decode cX10_ask 4 = .ok (.aload_n 0, 1) := by decide +kernel
theorem dX10_ask_5 : decode cX10_ask 5 = .ok (.iload_n 1, 1) := by decide +kernel
theorem dX10_ask_6 : decode cX10_ask 6 = .ok (.invokevirtual 160, 3) := by decide +kernel
theorem dX10_ask_9 : decode cX10_ask 9 = .ok (.ifCond .eq 11, 3) := by decide +kernel
theorem dX10_ask_12 : decode cX10_ask 12 = .ok (.aload_n 0, 1) := by decide +kernel
theorem dX10_ask_13 : decode cX10_ask 13 = .ok (.iload_n 1, 1) := by decide +kernel
theorem dX10_ask_14 : decode cX10_ask 14 = .ok (.invokevirtual 313, 3) := by decide +kernel
theorem dX10_ask_17 : decode cX10_ask 17 = .ok (.goto 5, 3) := by decide +kernel
theorem dX10_ask_20 : decode cX10_ask 20 = .ok (.bipush (-2), 2) := by decide +kernel
theorem dX10_ask_22 : decode cX10_ask 22 = .ok (.ireturn, 1) := by decide +kernel
noncomputable def F10_ask (v1 : Int32) (mm : Mem) : Option (Int32 × Mem) :=
  ((F10_find mm).bind (fun q4 => ((F10_isWell v1 q4).bind (fun q5 => (if q5 = (0 : Int32) then some ((-2 : Int32), q4) else ((F10_askOf v1 q4).bind (fun q6 => (some (q6.1, q6.2)))))))))
set_option maxHeartbeats 4000000 in
set_option maxRecDepth 100000 in
theorem kX10_ask (l : Launch) (g : GG) (v1 : Int32) (mc mm : Mem) (q : Int32 × Mem) (hF : F10_ask v1 mm = some q) : KI l yX10_ask cX10_ask 2 .int 9 213 g [.ref (g.1 108), .int v1] mc mm q.1 (mc, q.2) := by
  intro sz
  refine x_start (Qc := fun z => QI g z q.1 (mc, q.2)) (by decide +kernel) (Nat.le_of_ble_eq_true rfl) ?_ sz
  intro p e s m args below meth c ls Z hr hlk hP hl
  have hx := Z.1.1
  have hb := Z.1.2.1
  have hown := Z.1.2.2.2.1
  have hts := Z.1.2.2.2.2
  have hS : va_S (AA g s.heap.size) s.heap s.heap [] := va_S.rf
  have hl : lv_has ls 2 [(0, .ref (g.1 108)), (1, .int v1)] := hl
  unfold F10_ask at hF
  refine lv_aload_n hx hb dX10_ask_0 rfl (lv_at hl 0 rfl) ?_
  obtain ⟨q4, hq4, hF⟩ := bd_ok hF
  refine xX10_find Z hP hS hq4 wd_22_5 hl.1 (Nat.le_of_ble_eq_true rfl) ⟨Nat.le_of_ble_eq_true rfl, Nat.le_of_ble_eq_true rfl⟩ dX10_ask_1 (fun H locs hP hS => ?_)
  refine lv_aload_n hx hb dX10_ask_4 rfl (lv_at hl 0 rfl) ?_
  refine lv_iload_n hx hb dX10_ask_5 rfl (lv_at hl 1 rfl) ?_
  obtain ⟨q5, hq5, hF⟩ := bd_ok hF
  refine xX10_isWell Z hP hS hq5 wd_15_22 hl.1 (Nat.le_of_ble_eq_true rfl) ⟨Nat.le_of_ble_eq_true rfl, Nat.le_of_ble_eq_true rfl⟩ dX10_ask_6 (fun H locs hP hS => ?_)
  refine lv_if_eq (tgt := 20) hx hb dX10_ask_9 rfl (fun hc => ?_) (fun hc => ?_)
  · have hF := (if_pos hc).symm.trans hF
    refine lv_bipush (v := (-2 : Int32)) hx hb dX10_ask_20 bp_m2 ?_
    exact ret_IWM Z hr hlk hP hS hF dX10_ask_22
  · have hF := (if_neg hc).symm.trans hF
    refine lv_aload_n hx hb dX10_ask_12 rfl (lv_at hl 0 rfl) ?_
    refine lv_iload_n hx hb dX10_ask_13 rfl (lv_at hl 1 rfl) ?_
    obtain ⟨q6, hq6, hF⟩ := bd_ok hF
    refine xX10_askOf Z hP hS hq6 wd_36_11 hl.1 (Nat.le_of_ble_eq_true rfl) ⟨Nat.le_of_ble_eq_true rfl, Nat.le_of_ble_eq_true rfl⟩ dX10_ask_14 (fun H locs hP hS => ?_)
    refine lv_goto (tgt := 22) hx hb dX10_ask_17 rfl ?_
    exact ret_IWM Z hr hlk hP hS hF dX10_ask_22
theorem xX10_ask {p : Program} {l : Launch} {e : Env} {R : Room} {s : State} {m : MethodId} {args : Array Value} {below : List Frame} {meth : Method} {c : Code} {H : Heap} {locs : List Loc} {Q : State → Prop} {cc : ByteArray} {nL : Nat} {own : String} {g : GG} {pc index : Nat} {ls : Array Slot} {rest : List Value} {mc mm : Mem} (Z : ZZ p s m args c cc nL own g) (hP : va_P g.2.2.1 vwCl (wL g mc mm) H) (hS : va_S (AA g s.heap.size) s.heap H locs) {v1 : Int32} {q : Int32 × Mem} (hq : F10_ask v1 mm = some q) (hlk : Cond.methodLink own index yX10_ask ∈ wsL_law) (hsz : ls.size = nL) (hro : (rest.map fun v => v.category).sum ≤ 8) (hR : 9 + 1 ≤ R.frames ∧ 8 + (2 + 11) + 213 ≤ R.locals) (hdg : decode cc pc = .ok (.invokevirtual index, 3)) (kk : ∀ (H : Heap) (locs : List Loc), va_P g.2.2.1 vwCl (wL g mc q.2) H → va_S (AA g s.heap.size) s.heap H locs → W p l e R s m args below meth c H locs 0 0 Q (F0 m (pc + 3) ls (.int q.1 :: rest))) : W p l e R s m args below meth c H locs 0 0 Q (F0 m pc ls (.int v1 :: .ref (g.1 108) :: rest)) :=
  x_VI Z hP hS (kX10_ask l g v1 mc mm q hq) (mO) (ci := 10) (by decide) rfl rfl mf_X10_ask mv_X10_ask hlk rfl rfl hsz hro hR hdg kk
theorem dX10_chanceOf_0 : decode cX10_chanceOf 0 = .ok (.lconst 0, 1) := by decide +kernel
theorem dX10_chanceOf_1 : decode cX10_chanceOf 1 = .ok (.lstore 5, 2) := by decide +kernel
theorem dX10_chanceOf_3 : decode cX10_chanceOf 3 = .ok (.iconst 0, 1) := by decide +kernel
theorem dX10_chanceOf_4 : decode cX10_chanceOf 4 = .ok (.istore 7, 2) := by decide +kernel
theorem dX10_chanceOf_6 : decode cX10_chanceOf 6 = .ok (.iload 7, 2) := by decide +kernel
theorem dX10_chanceOf_8 : decode cX10_chanceOf 8 = .ok (.iconst 1, 1) := by decide +kernel
theorem dX10_chanceOf_9 : decode cX10_chanceOf 9 = .ok (.aload_n 0, 1) := by decide +kernel
theorem dX10_chanceOf_10 : decode cX10_chanceOf 10 = .ok (.getfield 172, 3) := by decide +kernel
theorem dX10_chanceOf_13 : decode cX10_chanceOf 13 = .ok (.ishl, 1) := by decide +kernel
theorem dX10_chanceOf_14 : decode cX10_chanceOf 14 = .ok (.if_icmp .ge 87, 3) := by decide +kernel
theorem dX10_chanceOf_17 : decode cX10_chanceOf 17 = .ok (.aload_n 0, 1) := by decide +kernel
theorem dX10_chanceOf_18 : decode cX10_chanceOf 18 = .ok (.iload 7, 2) := by decide +kernel
theorem dX10_chanceOf_20 : decode cX10_chanceOf 20 = .ok (.putfield 187, 3) := by decide +kernel
theorem dX10_chanceOf_23 : decode cX10_chanceOf 23 = .ok (.aload_n 0, 1) := by decide +kernel
theorem dX10_chanceOf_24 : decode cX10_chanceOf 24 = .ok (.iload_n 2, 1) := by decide +kernel
theorem dX10_chanceOf_25 : decode cX10_chanceOf 25 = .ok (.invokevirtual 230, 3) := by decide +kernel
theorem dX10_chanceOf_28 : decode cX10_chanceOf 28 = .ok (.aload_n 0, 1) := by decide +kernel
theorem dX10_chanceOf_29 : decode cX10_chanceOf 29 = .ok (.iload_n 2, 1) := by decide +kernel
theorem dX10_chanceOf_30 : decode cX10_chanceOf 30 = .ok (.iload_n 3, 1) := by decide +kernel
theorem dX10_chanceOf_31 : decode cX10_chanceOf 31 = .ok (.invokevirtual 244, 3) := by decide +kernel
theorem dX10_chanceOf_34 : decode cX10_chanceOf 34 = .ok (.iconst (-1), 1) := by decide +kernel
theorem dX10_chanceOf_35 : decode cX10_chanceOf 35 = .ok (.if_icmp .ne 7, 3) := by decide +kernel
theorem dX10_chanceOf_38 : decode cX10_chanceOf 38 = .ok (.lconst 0, 1) := by decide +kernel
theorem dX10_chanceOf_39 : decode cX10_chanceOf 39 = .ok (.goto 4, 3) := by decide +kernel
theorem dX10_chanceOf_42 : decode cX10_chanceOf 42 = .ok (.lconst 1, 1) := by decide +kernel
theorem dX10_chanceOf_43 : decode cX10_chanceOf 43 = .ok (.lstore 8, 2) := by decide +kernel
theorem dX10_chanceOf_45 : decode cX10_chanceOf 45 = .ok (.iconst 0, 1) := by decide +kernel
theorem dX10_chanceOf_46 : decode cX10_chanceOf 46 = .ok (.istore 10, 2) := by decide +kernel
theorem dX10_chanceOf_48 : decode cX10_chanceOf 48 = .ok (.iload 10, 2) := by decide +kernel
theorem dX10_chanceOf_50 : decode cX10_chanceOf 50 = .ok (.aload_n 0, 1) := by decide +kernel
theorem dX10_chanceOf_51 : decode cX10_chanceOf 51 = .ok (.getfield 172, 3) := by decide +kernel
theorem dX10_chanceOf_54 : decode cX10_chanceOf 54 = .ok (.if_icmp .ge 34, 3) := by decide +kernel
theorem dX10_chanceOf_57 : decode cX10_chanceOf 57 = .ok (.lload 8, 2) := by decide +kernel
theorem dX10_chanceOf_59 : decode cX10_chanceOf 59 = .ok (.iload 7, 2) := by decide +kernel
theorem dX10_chanceOf_61 : decode cX10_chanceOf 61 = .ok (.iload 10, 2) := by decide +kernel
theorem dX10_chanceOf_63 : decode cX10_chanceOf 63 = .ok (.invokestatic 190, 3) := by decide +kernel
theorem dX10_chanceOf_66 : decode cX10_chanceOf 66 = .ok (.ifCond .eq 11, 3) := by decide +kernel
theorem dX10_chanceOf_69 : decode cX10_chanceOf 69 = .ok (.bipush 16, 2) := by decide +kernel
theorem dX10_chanceOf_71 : decode cX10_chanceOf 71 = .ok (.iload_n 1, 1) := by decide +kernel
theorem dX10_chanceOf_72 : decode cX10_chanceOf 72 = .ok (.isub, 1) := by decide +kernel
theorem dX10_chanceOf_73 : decode cX10_chanceOf 73 = .ok (.i2l, 1) := by decide +kernel
theorem dX10_chanceOf_74 : decode cX10_chanceOf 74 = .ok (.goto 5, 3) := by decide +kernel
theorem dX10_chanceOf_77 : decode cX10_chanceOf 77 = .ok (.iload_n 1, 1) := by decide +kernel
theorem dX10_chanceOf_78 : decode cX10_chanceOf 78 = .ok (.i2l, 1) := by decide +kernel
theorem dX10_chanceOf_79 : decode cX10_chanceOf 79 = .ok (.lmul, 1) := by decide +kernel
theorem dX10_chanceOf_80 : decode cX10_chanceOf 80 = .ok (.lstore 8, 2) := by decide +kernel
theorem dX10_chanceOf_82 : decode cX10_chanceOf 82 = .ok (.iinc 10 1, 3) := by decide +kernel
theorem dX10_chanceOf_85 : decode cX10_chanceOf 85 = .ok (.goto (-37), 3) := by decide +kernel
theorem dX10_chanceOf_88 : decode cX10_chanceOf 88 = .ok (.lload 5, 2) := by decide +kernel
theorem dX10_chanceOf_90 : decode cX10_chanceOf 90 = .ok (.lload 8, 2) := by decide +kernel
theorem dX10_chanceOf_92 : decode cX10_chanceOf 92 = .ok (.ladd, 1) := by decide +kernel
theorem dX10_chanceOf_93 : decode cX10_chanceOf 93 = .ok (.lstore 5, 2) := by decide +kernel
theorem dX10_chanceOf_95 : decode cX10_chanceOf 95 = .ok (.iinc 7 1, 3) := by decide +kernel
theorem dX10_chanceOf_98 : decode cX10_chanceOf 98 = .ok (.goto (-92), 3) := by decide +kernel
theorem dX10_chanceOf_101 : decode cX10_chanceOf 101 = .ok (.aload_n 0, 1) := by decide +kernel
theorem dX10_chanceOf_102 : decode cX10_chanceOf 102 = .ok (.iconst 0, 1) := by decide +kernel
theorem dX10_chanceOf_103 : decode cX10_chanceOf 103 = .ok (.putfield 187, 3) := by decide +kernel
theorem dX10_chanceOf_106 : decode cX10_chanceOf 106 = .ok (.lload 5, 2) := by decide +kernel
theorem dX10_chanceOf_108 : decode cX10_chanceOf 108 = .ok (.lconst 1, 1) := by decide +kernel
theorem dX10_chanceOf_109 : decode cX10_chanceOf 109 = .ok (.iconst 4, 1) := by decide +kernel
theorem dX10_chanceOf_110 : decode cX10_chanceOf 110 = .ok (.aload_n 0, 1) := by decide +kernel
theorem dX10_chanceOf_111 : decode cX10_chanceOf 111 = .ok (.getfield 172, 3) := by decide +kernel
theorem dX10_chanceOf_114 : decode cX10_chanceOf 114 = .ok (.imul, 1) := by decide +kernel
theorem dX10_chanceOf_115 : decode cX10_chanceOf 115 = .ok (.lshl, 1) := by decide +kernel
theorem dX10_chanceOf_116 : decode cX10_chanceOf 116 = .ok (.iload 4, 2) := by decide +kernel
theorem dX10_chanceOf_118 : decode cX10_chanceOf 118 = .ok (.invokestatic 316, 3) := by decide +kernel
theorem dX10_chanceOf_121 : decode cX10_chanceOf 121 = .ok (.lreturn, 1) := by decide +kernel
noncomputable def F10_chanceOf_b101 (v1 : Int32) (v2 : Int32) (v3 : Int32) (v4 : Int32) (a5 : Int64) (M : Mem) : Option (Int64 × Mem) :=
  (lt (mset M 0 13 (0 : Int32)) (fun M7 => ((F10_part a5 ((1 : Int64) <<< (((4 : Int32) * (M7 0 11)).toInt64 &&& (63 : Int64))) v4).bind (fun q8 => (some (q8, M7))))))
noncomputable def F10_chanceOf_b88 (kh : Int64 → Int32 → Mem → Option (Int64 × Mem)) (kx101 : Int64 → Mem → Option (Int64 × Mem)) (v1 : Int32) (v2 : Int32) (v3 : Int32) (v4 : Int32) (a5 : Int64) (a7 : Int32) (a8 : Int64) (M : Mem) : Option (Int64 × Mem) :=
  kh (a5 + a8) (a7 + (1 : Int32)) M
noncomputable def F10_chanceOf_b79 (kh : Int64 → Int32 → Int64 → Int32 → Mem → Option (Int64 × Mem)) (kx88 : Int64 → Int32 → Int64 → Mem → Option (Int64 × Mem)) (v1 : Int32) (v2 : Int32) (v3 : Int32) (v4 : Int32) (a5 : Int64) (a7 : Int32) (a10 : Int32) (s0 : Int64) (s1 : Int64) (M : Mem) : Option (Int64 × Mem) :=
  kh a5 a7 (s0 * s1) (a10 + (1 : Int32)) M
noncomputable def F10_chanceOf_p48 (kh : Int64 → Int32 → Int64 → Int32 → Mem → Option (Int64 × Mem)) (kx88 : Int64 → Int32 → Int64 → Mem → Option (Int64 × Mem)) (v1 : Int32) (v2 : Int32) (v3 : Int32) (v4 : Int32) (a5 : Int64) (a7 : Int32) (a8 : Int64) (a10 : Int32) (M : Mem) : Option (Int64 × Mem) :=
  (if (M 0 11) ≤ a10 then kx88 a5 a7 a8 M else ((F10_isIn a7 a10).bind (fun q9 => (if q9 = (0 : Int32) then (F10_chanceOf_b79 kh kx88 v1 v2 v3 v4) a5 a7 a10 a8 v1.toInt64 M else (F10_chanceOf_b79 kh kx88 v1 v2 v3 v4) a5 a7 a10 a8 (((16 : Int32) - v1).toInt64) M))))
noncomputable def F10_chanceOf_h48 (kx88 : Int64 → Int32 → Int64 → Mem → Option (Int64 × Mem)) (v1 : Int32) (v2 : Int32) (v3 : Int32) (v4 : Int32) : Nat → Int64 → Int32 → Int64 → Int32 → Mem → Option (Int64 × Mem)
  | 0, _, _, _, _, _ => none
  | n + 1, a5, a7, a8, a10, M => F10_chanceOf_p48 (F10_chanceOf_h48 kx88 v1 v2 v3 v4 n) kx88 v1 v2 v3 v4 a5 a7 a8 a10 M
noncomputable def F10_chanceOf_b43 (kh : Int64 → Int32 → Mem → Option (Int64 × Mem)) (kx101 : Int64 → Mem → Option (Int64 × Mem)) (v1 : Int32) (v2 : Int32) (v3 : Int32) (v4 : Int32) (a5 : Int64) (a7 : Int32) (s0 : Int64) (M : Mem) : Option (Int64 × Mem) :=
  (F10_chanceOf_h48 (F10_chanceOf_b88 kh kx101 v1 v2 v3 v4) v1 v2 v3 v4 FU) a5 a7 s0 (0 : Int32) M
noncomputable def F10_chanceOf_p6 (kh : Int64 → Int32 → Mem → Option (Int64 × Mem)) (kx101 : Int64 → Mem → Option (Int64 × Mem)) (v1 : Int32) (v2 : Int32) (v3 : Int32) (v4 : Int32) (a5 : Int64) (a7 : Int32) (M : Mem) : Option (Int64 × Mem) :=
  (if ((1 : Int32) <<< ((M 0 11) &&& (31 : Int32))) ≤ a7 then kx101 a5 M else (lt (mset M 0 13 a7) (fun M10 => ((F10_livesOne v2 M10).bind (fun q11 => ((F10_heardAt v2 v3 q11).bind (fun q12 => (if q12 = (-1 : Int32) then (F10_chanceOf_b43 kh kx101 v1 v2 v3 v4) a5 a7 (0 : Int64) q11 else (F10_chanceOf_b43 kh kx101 v1 v2 v3 v4) a5 a7 (1 : Int64) q11))))))))
noncomputable def F10_chanceOf_h6 (kx101 : Int64 → Mem → Option (Int64 × Mem)) (v1 : Int32) (v2 : Int32) (v3 : Int32) (v4 : Int32) : Nat → Int64 → Int32 → Mem → Option (Int64 × Mem)
  | 0, _, _, _ => none
  | n + 1, a5, a7, M => F10_chanceOf_p6 (F10_chanceOf_h6 kx101 v1 v2 v3 v4 n) kx101 v1 v2 v3 v4 a5 a7 M
noncomputable def F10_chanceOf (v1 : Int32) (v2 : Int32) (v3 : Int32) (v4 : Int32) (mm : Mem) : Option (Int64 × Mem) :=
  (F10_chanceOf_h6 (F10_chanceOf_b101 v1 v2 v3 v4) v1 v2 v3 v4 FU) (0 : Int64) (0 : Int32) mm
set_option maxHeartbeats 4000000 in
set_option maxRecDepth 100000 in
theorem kX10_chanceOf (l : Launch) (g : GG) (v1 : Int32) (v2 : Int32) (v3 : Int32) (v4 : Int32) (mc mm : Mem) (q : Int64 × Mem) (hF : F10_chanceOf v1 v2 v3 v4 mm = some q) : KL l yX10_chanceOf cX10_chanceOf 11 5 118 g [.ref (g.1 108), .int v1, .int v2, .int v3, .int v4] mc mm q.1 (mc, q.2) := by
  intro sz
  refine x_start (Qc := fun z => QL g z q.1 (mc, q.2)) (by decide +kernel) (Nat.le_of_ble_eq_true rfl) ?_ sz
  intro p e s m args below meth c ls Z hr hlk hP hl
  have hx := Z.1.1
  have hb := Z.1.2.1
  have hown := Z.1.2.2.2.1
  have hts := Z.1.2.2.2.2
  have hS : va_S (AA g s.heap.size) s.heap s.heap [] := va_S.rf
  have hl : lv_has ls 11 [(0, .ref (g.1 108)), (1, .int v1), (2, .int v2), (3, .int v3), (4, .int v4)] := hl
  unfold F10_chanceOf at hF
  have hb101 : ∀ (a5 : Int64) (M : Mem), F10_chanceOf_b101 v1 v2 v3 v4 a5 M = some q → ∀ (H : Heap) (locs : List Loc) (ls : Array Slot), lv_has ls 11 [(0, .ref (g.1 108)), (4, .int v4), (5, .long a5)] → va_P g.2.2.1 vwCl (wL g mc M) H → va_S (AA g s.heap.size) s.heap H locs → W p l e { frames := 5, cells := 0, slots := 0, locals := 118 } s m args below meth c H locs 0 0 (MQ below (QL g s.heap.size q.1 (mc, q.2)) args s 0 0 (AA g s.heap.size)) (F0 m 101 ls []) := by
    intro a5 M hF H locs ls hl hP hS
    unfold F10_chanceOf_b101 at hF
    refine lv_aload_n hx hb dX10_chanceOf_101 rfl (lv_at hl 0 rfl) ?_
    refine lv_iconst (v := (0 : Int32)) hx hb dX10_chanceOf_102 ic_0 ?_
    refine pf10_13 Z hP hS wd_23_1 dX10_chanceOf_103 (fun H locs hP hS => ?_)
    refine lv_lload hx hb dX10_chanceOf_106 (lv_at hl 2 rfl) ?_
    refine lv_lconst (v := (1 : Int64)) hx hb dX10_chanceOf_108 lc_1 ?_
    refine lv_iconst (v := (4 : Int32)) hx hb dX10_chanceOf_109 ic_4 ?_
    refine lv_aload_n hx hb dX10_chanceOf_110 rfl (lv_at hl 0 rfl) ?_
    obtain ⟨M7, eM7, hF⟩ := lt_ok hF
    have hP : va_P g.2.2.1 vwCl (wL g mc M7) H := by rw [eM7]; exact hP
    refine gf10_11 Z hP wd_18_4 dX10_chanceOf_111 ?_
    refine lv_imul hx hb dX10_chanceOf_114 ?_
    refine lv_lshl (v := ((1 : Int64) <<< (((4 : Int32) * (M7 0 11)).toInt64 &&& (63 : Int64)))) hx hb dX10_chanceOf_115 rfl ?_
    refine lv_iload hx hb dX10_chanceOf_116 (lv_at hl 1 rfl) ?_
    obtain ⟨q8, hq8, hF⟩ := bd_ok hF
    refine xX10_part Z hP hS hq8 wd_37_18 hl.1 (Nat.le_of_ble_eq_true rfl) ⟨Nat.le_of_ble_eq_true rfl, Nat.le_of_ble_eq_true rfl⟩ dX10_chanceOf_118 (fun H locs hP hS => ?_)
    exact ret_JWM Z hr hlk hP hS hF dX10_chanceOf_121
  have hL6 : ∀ (kx101 : Int64 → Mem → Option (Int64 × Mem)), (∀ (a5 : Int64) (M : Mem), kx101 a5 M = some q → ∀ (H : Heap) (locs : List Loc) (ls : Array Slot), lv_has ls 11 [(0, .ref (g.1 108)), (4, .int v4), (5, .long a5)] → va_P g.2.2.1 vwCl (wL g mc M) H → va_S (AA g s.heap.size) s.heap H locs → W p l e { frames := 5, cells := 0, slots := 0, locals := 118 } s m args below meth c H locs 0 0 (MQ below (QL g s.heap.size q.1 (mc, q.2)) args s 0 0 (AA g s.heap.size)) (F0 m 101 ls [])) → ∀ n : Nat, ∀ (a5 : Int64) (a7 : Int32) (M : Mem), F10_chanceOf_h6 kx101 v1 v2 v3 v4 n a5 a7 M = some q → ∀ (H : Heap) (locs : List Loc) (ls : Array Slot), lv_has ls 11 [(0, .ref (g.1 108)), (1, .int v1), (2, .int v2), (3, .int v3), (4, .int v4), (5, .long a5), (7, .int a7)] → va_P g.2.2.1 vwCl (wL g mc M) H → va_S (AA g s.heap.size) s.heap H locs → W p l e { frames := 5, cells := 0, slots := 0, locals := 118 } s m args below meth c H locs 0 0 (MQ below (QL g s.heap.size q.1 (mc, q.2)) args s 0 0 (AA g s.heap.size)) (F0 m 6 ls []) := by
    intro kx101 hx101 n
    induction n with
    | zero => intro a5 a7 M hF H locs ls hl hP hS; exact absurd hF (fun z => nomatch (show (none : Option _) = some q from z))
    | succ n ih =>
      generalize hkh : F10_chanceOf_h6 kx101 v1 v2 v3 v4 n = kh at ih
      have hb88 : ∀ (a5 : Int64) (a7 : Int32) (a8 : Int64) (M : Mem), F10_chanceOf_b88 kh kx101 v1 v2 v3 v4 a5 a7 a8 M = some q → ∀ (H : Heap) (locs : List Loc) (ls : Array Slot), lv_has ls 11 [(0, .ref (g.1 108)), (1, .int v1), (2, .int v2), (3, .int v3), (4, .int v4), (5, .long a5), (7, .int a7), (8, .long a8)] → va_P g.2.2.1 vwCl (wL g mc M) H → va_S (AA g s.heap.size) s.heap H locs → W p l e { frames := 5, cells := 0, slots := 0, locals := 118 } s m args below meth c H locs 0 0 (MQ below (QL g s.heap.size q.1 (mc, q.2)) args s 0 0 (AA g s.heap.size)) (F0 m 88 ls []) := by
        intro a5 a7 a8 M hF H locs ls hl hP hS
        unfold F10_chanceOf_b88 at hF
        refine lv_lload hx hb dX10_chanceOf_88 (lv_at hl 5 rfl) ?_
        refine lv_lload hx hb dX10_chanceOf_90 (lv_at hl 7 rfl) ?_
        refine lv_ladd hx hb dX10_chanceOf_92 ?_
        refine lv_lstore (lv' := [(5, .long (a5 + a8)), (0, .ref (g.1 108)), (1, .int v1), (2, .int v2), (3, .int v3), (4, .int v4), (7, .int a7), (8, .long a8)]) hx hb dX10_chanceOf_93 hl (Nat.le_of_ble_eq_true rfl) rfl (fun ls hl => ?_)
        refine lv_iinc (lv' := [(7, .int (a7 + (1 : Int32))), (5, .long (a5 + a8)), (0, .ref (g.1 108)), (1, .int v1), (2, .int v2), (3, .int v3), (4, .int v4), (8, .long a8)]) (v := (a7 + (1 : Int32))) hx hb dX10_chanceOf_95 hl (k := 6) rfl (io_1 _) (Nat.le_of_ble_eq_true rfl) rfl (fun ls hl => ?_)
        refine lv_goto (tgt := 6) hx hb dX10_chanceOf_98 rfl ?_
        exact ih _ _ _ hF _ _ _ (lv_sub hl [2, 3, 4, 5, 6, 1, 0] rfl) hP hS
      have hL48 : ∀ (kx88 : Int64 → Int32 → Int64 → Mem → Option (Int64 × Mem)), (∀ (a5 : Int64) (a7 : Int32) (a8 : Int64) (M : Mem), kx88 a5 a7 a8 M = some q → ∀ (H : Heap) (locs : List Loc) (ls : Array Slot), lv_has ls 11 [(0, .ref (g.1 108)), (1, .int v1), (2, .int v2), (3, .int v3), (4, .int v4), (5, .long a5), (7, .int a7), (8, .long a8)] → va_P g.2.2.1 vwCl (wL g mc M) H → va_S (AA g s.heap.size) s.heap H locs → W p l e { frames := 5, cells := 0, slots := 0, locals := 118 } s m args below meth c H locs 0 0 (MQ below (QL g s.heap.size q.1 (mc, q.2)) args s 0 0 (AA g s.heap.size)) (F0 m 88 ls [])) → ∀ n : Nat, ∀ (a5 : Int64) (a7 : Int32) (a8 : Int64) (a10 : Int32) (M : Mem), F10_chanceOf_h48 kx88 v1 v2 v3 v4 n a5 a7 a8 a10 M = some q → ∀ (H : Heap) (locs : List Loc) (ls : Array Slot), lv_has ls 11 [(0, .ref (g.1 108)), (1, .int v1), (2, .int v2), (3, .int v3), (4, .int v4), (5, .long a5), (7, .int a7), (8, .long a8), (10, .int a10)] → va_P g.2.2.1 vwCl (wL g mc M) H → va_S (AA g s.heap.size) s.heap H locs → W p l e { frames := 5, cells := 0, slots := 0, locals := 118 } s m args below meth c H locs 0 0 (MQ below (QL g s.heap.size q.1 (mc, q.2)) args s 0 0 (AA g s.heap.size)) (F0 m 48 ls []) := by
        intro kx88 hx88 n
        induction n with
        | zero => intro a5 a7 a8 a10 M hF H locs ls hl hP hS; exact absurd hF (fun z => nomatch (show (none : Option _) = some q from z))
        | succ n ih =>
          generalize hkh : F10_chanceOf_h48 kx88 v1 v2 v3 v4 n = kh at ih
          have hb79 : ∀ (a5 : Int64) (a7 : Int32) (a10 : Int32) (s0 : Int64) (s1 : Int64) (M : Mem), F10_chanceOf_b79 kh kx88 v1 v2 v3 v4 a5 a7 a10 s0 s1 M = some q → ∀ (H : Heap) (locs : List Loc) (ls : Array Slot), lv_has ls 11 [(0, .ref (g.1 108)), (1, .int v1), (2, .int v2), (3, .int v3), (4, .int v4), (5, .long a5), (7, .int a7), (10, .int a10)] → va_P g.2.2.1 vwCl (wL g mc M) H → va_S (AA g s.heap.size) s.heap H locs → W p l e { frames := 5, cells := 0, slots := 0, locals := 118 } s m args below meth c H locs 0 0 (MQ below (QL g s.heap.size q.1 (mc, q.2)) args s 0 0 (AA g s.heap.size)) (F0 m 79 ls [.long s1, .long s0]) := by
            intro a5 a7 a10 s0 s1 M hF H locs ls hl hP hS
            unfold F10_chanceOf_b79 at hF
            refine lv_lmul hx hb dX10_chanceOf_79 ?_
            refine lv_lstore (lv' := [(8, .long (s0 * s1)), (0, .ref (g.1 108)), (1, .int v1), (2, .int v2), (3, .int v3), (4, .int v4), (5, .long a5), (7, .int a7), (10, .int a10)]) hx hb dX10_chanceOf_80 hl (Nat.le_of_ble_eq_true rfl) rfl (fun ls hl => ?_)
            refine lv_iinc (lv' := [(10, .int (a10 + (1 : Int32))), (8, .long (s0 * s1)), (0, .ref (g.1 108)), (1, .int v1), (2, .int v2), (3, .int v3), (4, .int v4), (5, .long a5), (7, .int a7)]) (v := (a10 + (1 : Int32))) hx hb dX10_chanceOf_82 hl (k := 8) rfl (io_1 _) (Nat.le_of_ble_eq_true rfl) rfl (fun ls hl => ?_)
            refine lv_goto (tgt := 48) hx hb dX10_chanceOf_85 rfl ?_
            exact ih _ _ _ _ _ hF _ _ _ (lv_sub hl [2, 3, 4, 5, 6, 7, 8, 1, 0] rfl) hP hS
          intro a5 a7 a8 a10 M hF H locs ls hl hP hS
          have hF : F10_chanceOf_p48 (F10_chanceOf_h48 kx88 v1 v2 v3 v4 n) kx88 v1 v2 v3 v4 a5 a7 a8 a10 M = some q := hF
          rw [hkh] at hF
          unfold F10_chanceOf_p48 at hF
          refine lv_iload hx hb dX10_chanceOf_48 (lv_at hl 8 rfl) ?_
          refine lv_aload_n hx hb dX10_chanceOf_50 rfl (lv_at hl 0 rfl) ?_
          refine gf10_11 Z hP wd_18_4 dX10_chanceOf_51 ?_
          refine lv_icmp_ge (tgt := 88) hx hb dX10_chanceOf_54 rfl (fun hc => ?_) (fun hc => ?_)
          · have hF := (if_pos hc).symm.trans hF
            exact hx88 _ _ _ _ hF _ _ _ (lv_sub hl [0, 1, 2, 3, 4, 5, 6, 7] rfl) hP hS
          · have hF := (if_neg hc).symm.trans hF
            refine lv_lload hx hb dX10_chanceOf_57 (lv_at hl 7 rfl) ?_
            refine lv_iload hx hb dX10_chanceOf_59 (lv_at hl 6 rfl) ?_
            refine lv_iload hx hb dX10_chanceOf_61 (lv_at hl 8 rfl) ?_
            obtain ⟨q9, hq9, hF⟩ := bd_ok hF
            refine xX10_isIn Z hP hS hq9 wd_23_2 hl.1 (Nat.le_of_ble_eq_true rfl) ⟨Nat.le_of_ble_eq_true rfl, Nat.le_of_ble_eq_true rfl⟩ dX10_chanceOf_63 (fun H locs hP hS => ?_)
            refine lv_if_eq (tgt := 77) hx hb dX10_chanceOf_66 rfl (fun hc => ?_) (fun hc => ?_)
            · have hF := (if_pos hc).symm.trans hF
              refine lv_iload_n hx hb dX10_chanceOf_77 rfl (lv_at hl 1 rfl) ?_
              refine lv_i2l (v := v1.toInt64) hx hb dX10_chanceOf_78 rfl ?_
              exact hb79 _ _ _ _ _ _ hF _ _ _ (lv_sub hl [0, 1, 2, 3, 4, 5, 6, 8] rfl) hP hS
            · have hF := (if_neg hc).symm.trans hF
              refine lv_bipush (v := (16 : Int32)) hx hb dX10_chanceOf_69 bp_16 ?_
              refine lv_iload_n hx hb dX10_chanceOf_71 rfl (lv_at hl 1 rfl) ?_
              refine lv_isub hx hb dX10_chanceOf_72 ?_
              refine lv_i2l (v := ((16 : Int32) - v1).toInt64) hx hb dX10_chanceOf_73 rfl ?_
              refine lv_goto (tgt := 79) hx hb dX10_chanceOf_74 rfl ?_
              exact hb79 _ _ _ _ _ _ hF _ _ _ (lv_sub hl [0, 1, 2, 3, 4, 5, 6, 8] rfl) hP hS
      have hb43 : ∀ (a5 : Int64) (a7 : Int32) (s0 : Int64) (M : Mem), F10_chanceOf_b43 kh kx101 v1 v2 v3 v4 a5 a7 s0 M = some q → ∀ (H : Heap) (locs : List Loc) (ls : Array Slot), lv_has ls 11 [(0, .ref (g.1 108)), (1, .int v1), (2, .int v2), (3, .int v3), (4, .int v4), (5, .long a5), (7, .int a7)] → va_P g.2.2.1 vwCl (wL g mc M) H → va_S (AA g s.heap.size) s.heap H locs → W p l e { frames := 5, cells := 0, slots := 0, locals := 118 } s m args below meth c H locs 0 0 (MQ below (QL g s.heap.size q.1 (mc, q.2)) args s 0 0 (AA g s.heap.size)) (F0 m 43 ls [.long s0]) := by
        intro a5 a7 s0 M hF H locs ls hl hP hS
        unfold F10_chanceOf_b43 at hF
        refine lv_lstore (lv' := [(8, .long s0), (0, .ref (g.1 108)), (1, .int v1), (2, .int v2), (3, .int v3), (4, .int v4), (5, .long a5), (7, .int a7)]) hx hb dX10_chanceOf_43 hl (Nat.le_of_ble_eq_true rfl) rfl (fun ls hl => ?_)
        refine lv_iconst (v := (0 : Int32)) hx hb dX10_chanceOf_45 ic_0 ?_
        refine lv_istore (lv' := [(10, .int (0 : Int32)), (8, .long s0), (0, .ref (g.1 108)), (1, .int v1), (2, .int v2), (3, .int v3), (4, .int v4), (5, .long a5), (7, .int a7)]) hx hb dX10_chanceOf_46 hl (Nat.le_of_ble_eq_true rfl) rfl (fun ls hl => ?_)
        exact (hL48 _ hb88 FU) _ _ _ _ _ hF _ _ _ (lv_sub hl [2, 3, 4, 5, 6, 7, 8, 1, 0] rfl) hP hS
      intro a5 a7 M hF H locs ls hl hP hS
      have hF : F10_chanceOf_p6 (F10_chanceOf_h6 kx101 v1 v2 v3 v4 n) kx101 v1 v2 v3 v4 a5 a7 M = some q := hF
      rw [hkh] at hF
      unfold F10_chanceOf_p6 at hF
      refine lv_iload hx hb dX10_chanceOf_6 (lv_at hl 6 rfl) ?_
      refine lv_iconst (v := (1 : Int32)) hx hb dX10_chanceOf_8 ic_1 ?_
      refine lv_aload_n hx hb dX10_chanceOf_9 rfl (lv_at hl 0 rfl) ?_
      refine gf10_11 Z hP wd_18_4 dX10_chanceOf_10 ?_
      refine lv_ishl hx hb dX10_chanceOf_13 ?_
      refine lv_icmp_ge (tgt := 101) hx hb dX10_chanceOf_14 rfl (fun hc => ?_) (fun hc => ?_)
      · have hF := (if_pos hc).symm.trans hF
        exact hx101 _ _ hF _ _ _ (lv_sub hl [0, 4, 5] rfl) hP hS
      · have hF := (if_neg hc).symm.trans hF
        refine lv_aload_n hx hb dX10_chanceOf_17 rfl (lv_at hl 0 rfl) ?_
        refine lv_iload hx hb dX10_chanceOf_18 (lv_at hl 6 rfl) ?_
        refine pf10_13 Z hP hS wd_23_1 dX10_chanceOf_20 (fun H locs hP hS => ?_)
        refine lv_aload_n hx hb dX10_chanceOf_23 rfl (lv_at hl 0 rfl) ?_
        refine lv_iload_n hx hb dX10_chanceOf_24 rfl (lv_at hl 2 rfl) ?_
        obtain ⟨M10, eM10, hF⟩ := lt_ok hF
        have hP : va_P g.2.2.1 vwCl (wL g mc M10) H := by rw [eM10]; exact hP
        obtain ⟨q11, hq11, hF⟩ := bd_ok hF
        refine xX10_livesOne Z hP hS hq11 wd_22_13 hl.1 (Nat.le_of_ble_eq_true rfl) ⟨Nat.le_of_ble_eq_true rfl, Nat.le_of_ble_eq_true rfl⟩ dX10_chanceOf_25 (fun H locs hP hS => ?_)
        refine lv_aload_n hx hb dX10_chanceOf_28 rfl (lv_at hl 0 rfl) ?_
        refine lv_iload_n hx hb dX10_chanceOf_29 rfl (lv_at hl 2 rfl) ?_
        refine lv_iload_n hx hb dX10_chanceOf_30 rfl (lv_at hl 3 rfl) ?_
        obtain ⟨q12, hq12, hF⟩ := bd_ok hF
        refine xX10_heardAt Z hP hS hq12 wd_25_10 hl.1 (Nat.le_of_ble_eq_true rfl) ⟨Nat.le_of_ble_eq_true rfl, Nat.le_of_ble_eq_true rfl⟩ dX10_chanceOf_31 (fun H locs hP hS => ?_)
        refine lv_iconst (v := (-1 : Int32)) hx hb dX10_chanceOf_34 ic_m1 ?_
        refine lv_icmp_ne (tgt := 42) hx hb dX10_chanceOf_35 rfl (fun hc => ?_) (fun hc => ?_)
        · have hF := (if_neg hc).symm.trans hF
          refine lv_lconst (v := (1 : Int64)) hx hb dX10_chanceOf_42 lc_1 ?_
          exact hb43 _ _ _ _ hF _ _ _ (lv_sub hl [0, 1, 2, 3, 4, 5, 6] rfl) hP hS
        · have hF := (if_pos hc).symm.trans hF
          refine lv_lconst (v := (0 : Int64)) hx hb dX10_chanceOf_38 lc_0 ?_
          refine lv_goto (tgt := 43) hx hb dX10_chanceOf_39 rfl ?_
          exact hb43 _ _ _ _ hF _ _ _ (lv_sub hl [0, 1, 2, 3, 4, 5, 6] rfl) hP hS
  refine lv_lconst (v := (0 : Int64)) hx hb dX10_chanceOf_0 lc_0 ?_
  refine lv_lstore (lv' := [(5, .long (0 : Int64)), (0, .ref (g.1 108)), (1, .int v1), (2, .int v2), (3, .int v3), (4, .int v4)]) hx hb dX10_chanceOf_1 hl (Nat.le_of_ble_eq_true rfl) rfl (fun ls hl => ?_)
  refine lv_iconst (v := (0 : Int32)) hx hb dX10_chanceOf_3 ic_0 ?_
  refine lv_istore (lv' := [(7, .int (0 : Int32)), (5, .long (0 : Int64)), (0, .ref (g.1 108)), (1, .int v1), (2, .int v2), (3, .int v3), (4, .int v4)]) hx hb dX10_chanceOf_4 hl (Nat.le_of_ble_eq_true rfl) rfl (fun ls hl => ?_)
  exact (hL6 _ hb101 FU) _ _ _ hF _ _ _ (lv_sub hl [2, 3, 4, 5, 6, 1, 0] rfl) hP hS
theorem xX10_chanceOf {p : Program} {l : Launch} {e : Env} {R : Room} {s : State} {m : MethodId} {args : Array Value} {below : List Frame} {meth : Method} {c : Code} {H : Heap} {locs : List Loc} {Q : State → Prop} {cc : ByteArray} {nL : Nat} {own : String} {g : GG} {pc index : Nat} {ls : Array Slot} {rest : List Value} {mc mm : Mem} (Z : ZZ p s m args c cc nL own g) (hP : va_P g.2.2.1 vwCl (wL g mc mm) H) (hS : va_S (AA g s.heap.size) s.heap H locs) {v1 : Int32} {v2 : Int32} {v3 : Int32} {v4 : Int32} {q : Int64 × Mem} (hq : F10_chanceOf v1 v2 v3 v4 mm = some q) (hlk : Cond.methodLink own index yX10_chanceOf ∈ wsL_law) (hsz : ls.size = nL) (hro : (rest.map fun v => v.category).sum ≤ 8) (hR : 5 + 1 ≤ R.frames ∧ 8 + (11 + 11) + 118 ≤ R.locals) (hdg : decode cc pc = .ok (.invokevirtual index, 3)) (kk : ∀ (H : Heap) (locs : List Loc), va_P g.2.2.1 vwCl (wL g mc q.2) H → va_S (AA g s.heap.size) s.heap H locs → W p l e R s m args below meth c H locs 0 0 Q (F0 m (pc + 3) ls (.long q.1 :: rest))) : W p l e R s m args below meth c H locs 0 0 Q (F0 m pc ls (.int v4 :: .int v3 :: .int v2 :: .int v1 :: .ref (g.1 108) :: rest)) :=
  x_VL Z hP hS (kX10_chanceOf l g v1 v2 v3 v4 mc mm q hq) (mO) (ci := 10) (by decide) rfl rfl mf_X10_chanceOf mv_X10_chanceOf hlk rfl rfl hsz hro hR hdg kk
theorem dX10_chance_0 : decode cX10_chance 0 = .ok (.aload_n 0, 1) := by decide +kernel
theorem dX10_chance_1 : decode cX10_chance 1 = .ok (.invokevirtual 236, 3) := by decide +kernel
theorem dX10_chance_4 : decode cX10_chance 4 = .ok (.iload_n 1, 1) := by decide +kernel
theorem dX10_chance_5 : decode cX10_chance 5 = .ok (.i2l, 1) := by decide +kernel
theorem dX10_chance_6 : decode cX10_chance 6 = .ok (.lconst 0, 1) := by decide +kernel
theorem dX10_chance_7 : decode cX10_chance 7 = .ok (.ldc2_w 320, 3) := by decide +kernel
theorem dX10_chance_10 : decode cX10_chance 10 = .ok (.invokestatic 83, 3) := by decide +kernel
theorem dX10_chance_13 : decode cX10_chance 13 = .ok (.ifCond .eq 38, 3) := by decide +kernel
theorem dX10_chance_16 : decode cX10_chance 16 = .ok (.aload_n 0, 1) := by decide +kernel
theorem dX10_chance_17 : decode cX10_chance 17 = .ok (.iload_n 2, 1) := by decide +kernel
theorem dX10_chance_18 : decode cX10_chance 18 = .ok (.invokevirtual 166, 3) := by decide +kernel
theorem dX10_chance_21 : decode cX10_chance 21 = .ok (.ifCond .eq 30, 3) := by decide +kernel
theorem dX10_chance_24 : decode cX10_chance 24 = .ok (.iload_n 3, 1) := by decide +kernel
theorem dX10_chance_25 : decode cX10_chance 25 = .ok (.invokestatic 178, 3) := by decide +kernel
theorem dX10_chance_28 : decode cX10_chance 28 = .ok (.ifCond .eq 23, 3) := by decide +kernel
theorem dX10_chance_31 : decode cX10_chance 31 = .ok (.iload 4, 2) := by decide +kernel
theorem dX10_chance_33 : decode cX10_chance 33 = .ok (.invokestatic 111, 3) := by decide +kernel
theorem dX10_chance_36 : decode cX10_chance 36 = .ok (.ifCond .eq 15, 3) := by decide +kernel
theorem dX10_chance_39 : decode cX10_chance 39 = .ok (.aload_n 0, 1) := by decide +kernel
theorem dX10_chance_40 : decode cX10_chance 40 = .ok (.iload_n 1, 1) := by decide +kernel
theorem dX10_chance_41 : decode cX10_chance 41 = .ok (.iload_n 2, 1) := by decide +kernel
theorem dX10_chance_42 : decode cX10_chance 42 = .ok (.iload_n 3, 1) := by decide +kernel
theorem dX10_chance_43 : decode cX10_chance 43 = .ok (.iload 4, 2) := by decide +kernel
theorem dX10_chance_45 : decode cX10_chance 45 = .ok (.invokevirtual 322, 3) := by decide +kernel
theorem dX10_chance_48 : decode cX10_chance 48 = .ok (.goto 8, 3) := by decide +kernel
theorem dX10_chance_51 : decode cX10_chance 51 = .ok (.bipush (-2), 2) := by decide +kernel
theorem dX10_chance_53 : decode cX10_chance 53 = .ok (.invokestatic 326, 3) := by decide +kernel
theorem dX10_chance_56 : decode cX10_chance 56 = .ok (.lreturn, 1) := by decide +kernel
noncomputable def F10_chance_b51 (v1 : Int32) (v2 : Int32) (v3 : Int32) (v4 : Int32) (M : Mem) : Option (Int64 × Mem) :=
  ((F10_no (-2 : Int32)).bind (fun q8 => (some (q8, M))))
noncomputable def F10_chance (v1 : Int32) (v2 : Int32) (v3 : Int32) (v4 : Int32) (mm : Mem) : Option (Int64 × Mem) :=
  ((F10_find mm).bind (fun q9 => ((F10_in v1.toInt64 (0 : Int64) (16 : Int64)).bind (fun q10 => (if q10 = (0 : Int32) then (F10_chance_b51 v1 v2 v3 v4) q9 else ((F10_isSaying v2 q9).bind (fun q11 => (if q11 = (0 : Int32) then (F10_chance_b51 v1 v2 v3 v4) q9 else ((F10_isEight v3).bind (fun q12 => (if q12 = (0 : Int32) then (F10_chance_b51 v1 v2 v3 v4) q9 else ((F10_isTwo v4).bind (fun q13 => (if q13 = (0 : Int32) then (F10_chance_b51 v1 v2 v3 v4) q9 else ((F10_chanceOf v1 v2 v3 v4 q9).bind (fun q14 => (some (q14.1, q14.2))))))))))))))))))
set_option maxHeartbeats 4000000 in
set_option maxRecDepth 100000 in
theorem kX10_chance (l : Launch) (g : GG) (v1 : Int32) (v2 : Int32) (v3 : Int32) (v4 : Int32) (mc mm : Mem) (q : Int64 × Mem) (hF : F10_chance v1 v2 v3 v4 mm = some q) : KL l yX10_chance cX10_chance 5 7 159 g [.ref (g.1 108), .int v1, .int v2, .int v3, .int v4] mc mm q.1 (mc, q.2) := by
  intro sz
  refine x_start (Qc := fun z => QL g z q.1 (mc, q.2)) (by decide +kernel) (Nat.le_of_ble_eq_true rfl) ?_ sz
  intro p e s m args below meth c ls Z hr hlk hP hl
  have hx := Z.1.1
  have hb := Z.1.2.1
  have hown := Z.1.2.2.2.1
  have hts := Z.1.2.2.2.2
  have hS : va_S (AA g s.heap.size) s.heap s.heap [] := va_S.rf
  have hl : lv_has ls 5 [(0, .ref (g.1 108)), (1, .int v1), (2, .int v2), (3, .int v3), (4, .int v4)] := hl
  unfold F10_chance at hF
  have hb51 : ∀  (M : Mem), F10_chance_b51 v1 v2 v3 v4 M = some q → ∀ (H : Heap) (locs : List Loc) (ls : Array Slot), lv_has ls 5 [] → va_P g.2.2.1 vwCl (wL g mc M) H → va_S (AA g s.heap.size) s.heap H locs → W p l e { frames := 7, cells := 0, slots := 0, locals := 159 } s m args below meth c H locs 0 0 (MQ below (QL g s.heap.size q.1 (mc, q.2)) args s 0 0 (AA g s.heap.size)) (F0 m 51 ls []) := by
    intro M hF H locs ls hl hP hS
    unfold F10_chance_b51 at hF
    refine lv_bipush (v := (-2 : Int32)) hx hb dX10_chance_51 bp_m2 ?_
    obtain ⟨q8, hq8, hF⟩ := bd_ok hF
    refine xX10_no Z hP hS hq8 wd_37_21 hl.1 (Nat.le_of_ble_eq_true rfl) ⟨Nat.le_of_ble_eq_true rfl, Nat.le_of_ble_eq_true rfl⟩ dX10_chance_53 (fun H locs hP hS => ?_)
    exact ret_JWM Z hr hlk hP hS hF dX10_chance_56
  refine lv_aload_n hx hb dX10_chance_0 rfl (lv_at hl 0 rfl) ?_
  obtain ⟨q9, hq9, hF⟩ := bd_ok hF
  refine xX10_find Z hP hS hq9 wd_22_5 hl.1 (Nat.le_of_ble_eq_true rfl) ⟨Nat.le_of_ble_eq_true rfl, Nat.le_of_ble_eq_true rfl⟩ dX10_chance_1 (fun H locs hP hS => ?_)
  refine lv_iload_n hx hb dX10_chance_4 rfl (lv_at hl 1 rfl) ?_
  refine lv_i2l (v := v1.toInt64) hx hb dX10_chance_5 rfl ?_
  refine lv_lconst (v := (0 : Int64)) hx hb dX10_chance_6 lc_0 ?_
  refine lv_ldc2 (v := (16 : Int64)) hx hb hown (hts _ wd_37_13) dX10_chance_7 ?_
  obtain ⟨q10, hq10, hF⟩ := bd_ok hF
  refine xX10_in Z hP hS hq10 wd_13_8 hl.1 (Nat.le_of_ble_eq_true rfl) ⟨Nat.le_of_ble_eq_true rfl, Nat.le_of_ble_eq_true rfl⟩ dX10_chance_10 (fun H locs hP hS => ?_)
  refine lv_if_eq (tgt := 51) hx hb dX10_chance_13 rfl (fun hc => ?_) (fun hc => ?_)
  · have hF := (if_pos hc).symm.trans hF
    exact hb51 _ hF _ _ _ (lv_sub hl [] rfl) hP hS
  · have hF := (if_neg hc).symm.trans hF
    refine lv_aload_n hx hb dX10_chance_16 rfl (lv_at hl 0 rfl) ?_
    refine lv_iload_n hx hb dX10_chance_17 rfl (lv_at hl 2 rfl) ?_
    obtain ⟨q11, hq11, hF⟩ := bd_ok hF
    refine xX10_isSaying Z hP hS hq11 wd_17_3 hl.1 (Nat.le_of_ble_eq_true rfl) ⟨Nat.le_of_ble_eq_true rfl, Nat.le_of_ble_eq_true rfl⟩ dX10_chance_18 (fun H locs hP hS => ?_)
    refine lv_if_eq (tgt := 51) hx hb dX10_chance_21 rfl (fun hc => ?_) (fun hc => ?_)
    · have hF := (if_pos hc).symm.trans hF
      exact hb51 _ hF _ _ _ (lv_sub hl [] rfl) hP hS
    · have hF := (if_neg hc).symm.trans hF
      refine lv_iload_n hx hb dX10_chance_24 rfl (lv_at hl 3 rfl) ?_
      obtain ⟨q12, hq12, hF⟩ := bd_ok hF
      refine xX10_isEight Z hP hS hq12 wd_18_9 hl.1 (Nat.le_of_ble_eq_true rfl) ⟨Nat.le_of_ble_eq_true rfl, Nat.le_of_ble_eq_true rfl⟩ dX10_chance_25 (fun H locs hP hS => ?_)
      refine lv_if_eq (tgt := 51) hx hb dX10_chance_28 rfl (fun hc => ?_) (fun hc => ?_)
      · have hF := (if_pos hc).symm.trans hF
        exact hb51 _ hF _ _ _ (lv_sub hl [] rfl) hP hS
      · have hF := (if_neg hc).symm.trans hF
        refine lv_iload hx hb dX10_chance_31 (lv_at hl 4 rfl) ?_
        obtain ⟨q13, hq13, hF⟩ := bd_ok hF
        refine xX10_isTwo Z hP hS hq13 wd_13_5 hl.1 (Nat.le_of_ble_eq_true rfl) ⟨Nat.le_of_ble_eq_true rfl, Nat.le_of_ble_eq_true rfl⟩ dX10_chance_33 (fun H locs hP hS => ?_)
        refine lv_if_eq (tgt := 51) hx hb dX10_chance_36 rfl (fun hc => ?_) (fun hc => ?_)
        · have hF := (if_pos hc).symm.trans hF
          exact hb51 _ hF _ _ _ (lv_sub hl [] rfl) hP hS
        · have hF := (if_neg hc).symm.trans hF
          refine lv_aload_n hx hb dX10_chance_39 rfl (lv_at hl 0 rfl) ?_
          refine lv_iload_n hx hb dX10_chance_40 rfl (lv_at hl 1 rfl) ?_
          refine lv_iload_n hx hb dX10_chance_41 rfl (lv_at hl 2 rfl) ?_
          refine lv_iload_n hx hb dX10_chance_42 rfl (lv_at hl 3 rfl) ?_
          refine lv_iload hx hb dX10_chance_43 (lv_at hl 4 rfl) ?_
          obtain ⟨q14, hq14, hF⟩ := bd_ok hF
          refine xX10_chanceOf Z hP hS hq14 wd_37_14 hl.1 (Nat.le_of_ble_eq_true rfl) ⟨Nat.le_of_ble_eq_true rfl, Nat.le_of_ble_eq_true rfl⟩ dX10_chance_45 (fun H locs hP hS => ?_)
          refine lv_goto (tgt := 56) hx hb dX10_chance_48 rfl ?_
          exact ret_JWM Z hr hlk hP hS hF dX10_chance_56
theorem xX10_chance {p : Program} {l : Launch} {e : Env} {R : Room} {s : State} {m : MethodId} {args : Array Value} {below : List Frame} {meth : Method} {c : Code} {H : Heap} {locs : List Loc} {Q : State → Prop} {cc : ByteArray} {nL : Nat} {own : String} {g : GG} {pc index : Nat} {ls : Array Slot} {rest : List Value} {mc mm : Mem} (Z : ZZ p s m args c cc nL own g) (hP : va_P g.2.2.1 vwCl (wL g mc mm) H) (hS : va_S (AA g s.heap.size) s.heap H locs) {v1 : Int32} {v2 : Int32} {v3 : Int32} {v4 : Int32} {q : Int64 × Mem} (hq : F10_chance v1 v2 v3 v4 mm = some q) (hlk : Cond.methodLink own index yX10_chance ∈ wsL_law) (hsz : ls.size = nL) (hro : (rest.map fun v => v.category).sum ≤ 8) (hR : 7 + 1 ≤ R.frames ∧ 8 + (5 + 11) + 159 ≤ R.locals) (hdg : decode cc pc = .ok (.invokevirtual index, 3)) (kk : ∀ (H : Heap) (locs : List Loc), va_P g.2.2.1 vwCl (wL g mc q.2) H → va_S (AA g s.heap.size) s.heap H locs → W p l e R s m args below meth c H locs 0 0 Q (F0 m (pc + 3) ls (.long q.1 :: rest))) : W p l e R s m args below meth c H locs 0 0 Q (F0 m pc ls (.int v4 :: .int v3 :: .int v2 :: .int v1 :: .ref (g.1 108) :: rest)) :=
  x_VL Z hP hS (kX10_chance l g v1 v2 v3 v4 mc mm q hq) (mO) (ci := 10) (by decide) rfl rfl mf_X10_chance mv_X10_chance hlk rfl rfl hsz hro hR hdg kk
theorem dX10_lot_0 : decode cX10_lot 0 = .ok (.aload_n 0, 1) := by decide +kernel
theorem dX10_lot_1 : decode cX10_lot 1 = .ok (.ldc_w 330, 3) := by decide +kernel
theorem dX10_lot_4 : decode cX10_lot 4 = .ok (.aload_n 0, 1) := by decide +kernel
theorem dX10_lot_5 : decode cX10_lot 5 = .ok (.getfield 331, 3) := by decide +kernel
theorem dX10_lot_8 : decode cX10_lot 8 = .ok (.imul, 1) := by decide +kernel
theorem dX10_lot_9 : decode cX10_lot 9 = .ok (.sipush 12345, 3) := by decide +kernel
theorem dX10_lot_12 : decode cX10_lot 12 = .ok (.iadd, 1) := by decide +kernel
theorem dX10_lot_13 : decode cX10_lot 13 = .ok (.putfield 331, 3) := by decide +kernel
theorem dX10_lot_16 : decode cX10_lot 16 = .ok (.aload_n 0, 1) := by decide +kernel
theorem dX10_lot_17 : decode cX10_lot 17 = .ok (.getfield 331, 3) := by decide +kernel
theorem dX10_lot_20 : decode cX10_lot 20 = .ok (.bipush 16, 2) := by decide +kernel
theorem dX10_lot_22 : decode cX10_lot 22 = .ok (.iushr, 1) := by decide +kernel
theorem dX10_lot_23 : decode cX10_lot 23 = .ok (.iload_n 1, 1) := by decide +kernel
theorem dX10_lot_24 : decode cX10_lot 24 = .ok (.irem, 1) := by decide +kernel
theorem dX10_lot_25 : decode cX10_lot 25 = .ok (.ireturn, 1) := by decide +kernel
noncomputable def F10_lot (v1 : Int32) (mm : Mem) : Option (Int32 × Mem) :=
  (lt (mset mm 0 29 (((1103515245 : Int32) * (mm 0 29)) + (12345 : Int32))) (fun M2 => (nz v1 (some ((jrem (jushr (M2 0 29) (16 : Int32)) v1), M2)))))
set_option maxHeartbeats 4000000 in
set_option maxRecDepth 100000 in
theorem kX10_lot (l : Launch) (g : GG) (v1 : Int32) (mc mm : Mem) (q : Int32 × Mem) (hF : F10_lot v1 mm = some q) : KI l yX10_lot cX10_lot 2 .int 0 0 g [.ref (g.1 108), .int v1] mc mm q.1 (mc, q.2) := by
  intro sz
  refine x_start (Qc := fun z => QI g z q.1 (mc, q.2)) (by decide +kernel) (Nat.le_of_ble_eq_true rfl) ?_ sz
  intro p e s m args below meth c ls Z hr hlk hP hl
  have hx := Z.1.1
  have hb := Z.1.2.1
  have hown := Z.1.2.2.2.1
  have hts := Z.1.2.2.2.2
  have hS : va_S (AA g s.heap.size) s.heap s.heap [] := va_S.rf
  have hl : lv_has ls 2 [(0, .ref (g.1 108)), (1, .int v1)] := hl
  unfold F10_lot at hF
  refine lv_aload_n hx hb dX10_lot_0 rfl (lv_at hl 0 rfl) ?_
  refine lv_ldcw (v := (1103515245 : Int32)) hx hb hown (hts _ wd_39_6) dX10_lot_1 ?_
  refine lv_aload_n hx hb dX10_lot_4 rfl (lv_at hl 0 rfl) ?_
  refine gf10_29 Z hP wd_39_1 dX10_lot_5 ?_
  refine lv_imul hx hb dX10_lot_8 ?_
  refine lv_sipush (v := (12345 : Int32)) hx hb dX10_lot_9 sp_12345 ?_
  refine lv_iadd hx hb dX10_lot_12 ?_
  refine pf10_29 Z hP hS wd_39_1 dX10_lot_13 (fun H locs hP hS => ?_)
  refine lv_aload_n hx hb dX10_lot_16 rfl (lv_at hl 0 rfl) ?_
  obtain ⟨M2, eM2, hF⟩ := lt_ok hF
  have hP : va_P g.2.2.1 vwCl (wL g mc M2) H := by rw [eM2]; exact hP
  refine gf10_29 Z hP wd_39_1 dX10_lot_17 ?_
  refine lv_bipush (v := (16 : Int32)) hx hb dX10_lot_20 bp_16 ?_
  refine lv_iushr (v := (jushr (M2 0 29) (16 : Int32))) hx hb dX10_lot_22 rfl ?_
  refine lv_iload_n hx hb dX10_lot_23 rfl (lv_at hl 1 rfl) ?_
  obtain ⟨hnz, hF⟩ := nz_ok hF
  refine lv_irem hx hb dX10_lot_24 hnz ?_
  exact ret_IWM Z hr hlk hP hS hF dX10_lot_25
theorem xX10_lot {p : Program} {l : Launch} {e : Env} {R : Room} {s : State} {m : MethodId} {args : Array Value} {below : List Frame} {meth : Method} {c : Code} {H : Heap} {locs : List Loc} {Q : State → Prop} {cc : ByteArray} {nL : Nat} {own : String} {g : GG} {pc index : Nat} {ls : Array Slot} {rest : List Value} {mc mm : Mem} (Z : ZZ p s m args c cc nL own g) (hP : va_P g.2.2.1 vwCl (wL g mc mm) H) (hS : va_S (AA g s.heap.size) s.heap H locs) {v1 : Int32} {q : Int32 × Mem} (hq : F10_lot v1 mm = some q) (hlk : Cond.methodLink own index yX10_lot ∈ wsL_law) (hsz : ls.size = nL) (hro : (rest.map fun v => v.category).sum ≤ 8) (hR : 0 + 1 ≤ R.frames ∧ 8 + (2 + 11) + 0 ≤ R.locals) (hdg : decode cc pc = .ok (.invokevirtual index, 3)) (kk : ∀ (H : Heap) (locs : List Loc), va_P g.2.2.1 vwCl (wL g mc q.2) H → va_S (AA g s.heap.size) s.heap H locs → W p l e R s m args below meth c H locs 0 0 Q (F0 m (pc + 3) ls (.int q.1 :: rest))) : W p l e R s m args below meth c H locs 0 0 Q (F0 m pc ls (.int v1 :: .ref (g.1 108) :: rest)) :=
  x_VI Z hP hS (kX10_lot l g v1 mc mm q hq) (mO) (ci := 10) (by decide) rfl rfl mf_X10_lot mv_X10_lot hlk rfl rfl hsz hro hR hdg kk

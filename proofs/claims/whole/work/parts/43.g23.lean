theorem dX10_isCovered_0 : decode cX10_isCovered 0 = .ok (.iconst 0, 1) := by decide +kernel
theorem dX10_isCovered_1 : decode cX10_isCovered 1 = .ok (.istore_n 3, 1) := by decide +kernel
theorem dX10_isCovered_2 : decode cX10_isCovered 2 = .ok (.iconst 0, 1) := by decide +kernel
theorem dX10_isCovered_3 : decode cX10_isCovered 3 = .ok (.istore 4, 2) := by decide +kernel
theorem dX10_isCovered_5 : decode cX10_isCovered 5 = .ok (.iload 4, 2) := by decide +kernel
theorem dX10_isCovered_7 : decode cX10_isCovered 7 = .ok (.aload_n 0, 1) := by decide +kernel
theorem dX10_isCovered_8 : decode cX10_isCovered 8 = .ok (.getfield 172, 3) := by decide +kernel
theorem dX10_isCovered_11 : decode cX10_isCovered 11 = .ok (.if_icmp .ge 83, 3) := by decide +kernel
theorem dX10_isCovered_14 : decode cX10_isCovered 14 = .ok (.iload_n 3, 1) := by decide +kernel
theorem dX10_isCovered_15 : decode cX10_isCovered 15 = .ok (.ifCond .ne 67, 3) := by decide +kernel
theorem dX10_isCovered_18 : decode cX10_isCovered 18 = .ok (.aload_n 0, 1) := by decide +kernel
theorem dX10_isCovered_19 : decode cX10_isCovered 19 = .ok (.getfield 187, 3) := by decide +kernel
theorem dX10_isCovered_22 : decode cX10_isCovered 22 = .ok (.iload 4, 2) := by decide +kernel
theorem dX10_isCovered_24 : decode cX10_isCovered 24 = .ok (.invokestatic 190, 3) := by decide +kernel
theorem dX10_isCovered_27 : decode cX10_isCovered 27 = .ok (.ifCond .ne 59, 3) := by decide +kernel
theorem dX10_isCovered_30 : decode cX10_isCovered 30 = .ok (.aload_n 0, 1) := by decide +kernel
theorem dX10_isCovered_31 : decode cX10_isCovered 31 = .ok (.getfield 34, 3) := by decide +kernel
theorem dX10_isCovered_34 : decode cX10_isCovered 34 = .ok (.iconst 3, 1) := by decide +kernel
theorem dX10_isCovered_35 : decode cX10_isCovered 35 = .ok (.iload 4, 2) := by decide +kernel
theorem dX10_isCovered_37 : decode cX10_isCovered 37 = .ok (.imul, 1) := by decide +kernel
theorem dX10_isCovered_38 : decode cX10_isCovered 38 = .ok (.iaload, 1) := by decide +kernel
theorem dX10_isCovered_39 : decode cX10_isCovered 39 = .ok (.iconst 1, 1) := by decide +kernel
theorem dX10_isCovered_40 : decode cX10_isCovered 40 = .ok (.if_icmp .ne 46, 3) := by decide +kernel
theorem dX10_isCovered_43 : decode cX10_isCovered 43 = .ok (.aload_n 0, 1) := by decide +kernel
theorem dX10_isCovered_44 : decode cX10_isCovered 44 = .ok (.getfield 34, 3) := by decide +kernel
theorem dX10_isCovered_47 : decode cX10_isCovered 47 = .ok (.iconst 3, 1) := by decide +kernel
theorem dX10_isCovered_48 : decode cX10_isCovered 48 = .ok (.iload 4, 2) := by decide +kernel
theorem dX10_isCovered_50 : decode cX10_isCovered 50 = .ok (.imul, 1) := by decide +kernel
theorem dX10_isCovered_51 : decode cX10_isCovered 51 = .ok (.iconst 2, 1) := by decide +kernel
theorem dX10_isCovered_52 : decode cX10_isCovered 52 = .ok (.iadd, 1) := by decide +kernel
theorem dX10_isCovered_53 : decode cX10_isCovered 53 = .ok (.iaload, 1) := by decide +kernel
theorem dX10_isCovered_54 : decode cX10_isCovered 54 = .ok (.iload_n 2, 1) := by decide +kernel
theorem dX10_isCovered_55 : decode cX10_isCovered 55 = .ok (.if_icmp .ne 31, 3) := by decide +kernel
theorem dX10_isCovered_58 : decode cX10_isCovered 58 = .ok (.iload_n 1, 1) := by decide +kernel
theorem dX10_isCovered_59 : decode cX10_isCovered 59 = .ok (.aload_n 0, 1) := by decide +kernel
theorem dX10_isCovered_60 : decode cX10_isCovered 60 = .ok (.getfield 34, 3) := by decide +kernel
theorem dX10_isCovered_63 : decode cX10_isCovered 63 = .ok (.iconst 3, 1) := by decide +kernel
theorem dX10_isCovered_64 : decode cX10_isCovered 64 = .ok (.iload 4, 2) := by decide +kernel
theorem dX10_isCovered_66 : decode cX10_isCovered 66 = .ok (.imul, 1) := by decide +kernel
theorem dX10_isCovered_67 : decode cX10_isCovered 67 = .ok (.iconst 1, 1) := by decide +kernel
theorem dX10_isCovered_68 : decode cX10_isCovered 68 = .ok (.iadd, 1) := by decide +kernel
theorem dX10_isCovered_69 : decode cX10_isCovered 69 = .ok (.iaload, 1) := by decide +kernel
theorem dX10_isCovered_70 : decode cX10_isCovered 70 = .ok (.isub, 1) := by decide +kernel
theorem dX10_isCovered_71 : decode cX10_isCovered 71 = .ok (.i2l, 1) := by decide +kernel
theorem dX10_isCovered_72 : decode cX10_isCovered 72 = .ok (.lconst 0, 1) := by decide +kernel
theorem dX10_isCovered_73 : decode cX10_isCovered 73 = .ok (.ldc2_w 96, 3) := by decide +kernel
theorem dX10_isCovered_76 : decode cX10_isCovered 76 = .ok (.invokestatic 83, 3) := by decide +kernel
theorem dX10_isCovered_79 : decode cX10_isCovered 79 = .ok (.ifCond .eq 7, 3) := by decide +kernel
theorem dX10_isCovered_82 : decode cX10_isCovered 82 = .ok (.iconst 1, 1) := by decide +kernel
theorem dX10_isCovered_83 : decode cX10_isCovered 83 = .ok (.goto 4, 3) := by decide +kernel
theorem dX10_isCovered_86 : decode cX10_isCovered 86 = .ok (.iconst 0, 1) := by decide +kernel
theorem dX10_isCovered_87 : decode cX10_isCovered 87 = .ok (.istore_n 3, 1) := by decide +kernel
theorem dX10_isCovered_88 : decode cX10_isCovered 88 = .ok (.iinc 4 1, 3) := by decide +kernel
theorem dX10_isCovered_91 : decode cX10_isCovered 91 = .ok (.goto (-86), 3) := by decide +kernel
theorem dX10_isCovered_94 : decode cX10_isCovered 94 = .ok (.iload_n 3, 1) := by decide +kernel
theorem dX10_isCovered_95 : decode cX10_isCovered 95 = .ok (.ireturn, 1) := by decide +kernel
noncomputable def F10_isCovered_b87 (kh : Int32 → Int32 → Option (Int32)) (v1 : Int32) (v2 : Int32) (mm : Mem) (a4 : Int32) (s0 : Int32) : Option (Int32) :=
  kh s0 (a4 + (1 : Int32))
noncomputable def F10_isCovered_b82 (kh : Int32 → Int32 → Option (Int32)) (v1 : Int32) (v2 : Int32) (mm : Mem) (a4 : Int32) : Option (Int32) :=
  (F10_isCovered_b87 kh v1 v2 mm) a4 (1 : Int32)
noncomputable def F10_isCovered_b86 (kh : Int32 → Int32 → Option (Int32)) (v1 : Int32) (v2 : Int32) (mm : Mem) (a4 : Int32) : Option (Int32) :=
  (F10_isCovered_b87 kh v1 v2 mm) a4 (0 : Int32)
noncomputable def F10_isCovered_p5 (kh : Int32 → Int32 → Option (Int32)) (v1 : Int32) (v2 : Int32) (mm : Mem) (a3 : Int32) (a4 : Int32) : Option (Int32) :=
  (if (mm 0 11) ≤ a4 then (bz a3 (some a3)) else (if a3 = (0 : Int32) then ((F10_isIn (mm 0 13) a4).bind (fun q6 => (if q6 = (0 : Int32) then (ck ((3 : Int32) * a4) 24 (if (mm 9 ((3 : Int32) * a4).toNatClampNeg) = (1 : Int32) then (ck (((3 : Int32) * a4) + (2 : Int32)) 24 (if (mm 9 (((3 : Int32) * a4) + (2 : Int32)).toNatClampNeg) = v2 then (ck (((3 : Int32) * a4) + (1 : Int32)) 24 ((F10_in ((v1 - (mm 9 (((3 : Int32) * a4) + (1 : Int32)).toNatClampNeg)).toInt64) (0 : Int64) (2 : Int64)).bind (fun q10 => (if q10 = (0 : Int32) then (F10_isCovered_b86 kh v1 v2 mm) a4 else (F10_isCovered_b82 kh v1 v2 mm) a4)))) else (F10_isCovered_b86 kh v1 v2 mm) a4)) else (F10_isCovered_b86 kh v1 v2 mm) a4)) else (F10_isCovered_b86 kh v1 v2 mm) a4))) else (F10_isCovered_b82 kh v1 v2 mm) a4))
noncomputable def F10_isCovered_h5 (v1 : Int32) (v2 : Int32) (mm : Mem) : Nat → Int32 → Int32 → Option (Int32)
  | 0, _, _ => none
  | n + 1, a3, a4 => F10_isCovered_p5 (F10_isCovered_h5 v1 v2 mm n) v1 v2 mm a3 a4
noncomputable def F10_isCovered (v1 : Int32) (v2 : Int32) (mm : Mem) : Option (Int32) :=
  (F10_isCovered_h5 v1 v2 mm FU) (0 : Int32) (0 : Int32)
set_option maxHeartbeats 4000000 in
set_option maxRecDepth 100000 in
theorem kX10_isCovered (l : Launch) (g : GG) (v1 : Int32) (v2 : Int32) (mc mm : Mem) (q : Int32) (hF : F10_isCovered v1 v2 mm = some q) : KI l yX10_isCovered cX10_isCovered 5 .boolean 1 25 g [.ref (g.1 108), .int v1, .int v2] mc mm q (mc, mm) := by
  intro sz
  refine x_start (Qc := fun z => QI g z q (mc, mm)) (by decide +kernel) (Nat.le_of_ble_eq_true rfl) ?_ sz
  intro p e s m args below meth c ls Z hr hlk hP hl
  have hx := Z.1.1
  have hb := Z.1.2.1
  have hown := Z.1.2.2.2.1
  have hts := Z.1.2.2.2.2
  have hS : va_S (AA g s.heap.size) s.heap s.heap [] := va_S.rf
  have hl : lv_has ls 5 [(0, .ref (g.1 108)), (1, .int v1), (2, .int v2)] := hl
  unfold F10_isCovered at hF
  have hL5 : ∀ n : Nat, ∀ (a3 : Int32) (a4 : Int32), F10_isCovered_h5 v1 v2 mm n a3 a4 = some q → ∀ (H : Heap) (locs : List Loc) (ls : Array Slot), lv_has ls 5 [(0, .ref (g.1 108)), (1, .int v1), (2, .int v2), (3, .int a3), (4, .int a4)] → va_P g.2.2.1 vwCl (wL g mc mm) H → va_S (AA g s.heap.size) s.heap H locs → W p l e { frames := 1, cells := 0, slots := 0, locals := 25 } s m args below meth c H locs 0 0 (MQ below (QI g s.heap.size q (mc, mm)) args s 0 0 (AA g s.heap.size)) (F0 m 5 ls []) := by
    intro n
    induction n with
    | zero => intro a3 a4 hF H locs ls hl hP hS; exact absurd hF (fun z => nomatch (show (none : Option _) = some q from z))
    | succ n ih =>
      generalize hkh : F10_isCovered_h5 v1 v2 mm n = kh at ih
      have hb87 : ∀ (a4 : Int32) (s0 : Int32), F10_isCovered_b87 kh v1 v2 mm a4 s0 = some q → ∀ (H : Heap) (locs : List Loc) (ls : Array Slot), lv_has ls 5 [(0, .ref (g.1 108)), (1, .int v1), (2, .int v2), (4, .int a4)] → va_P g.2.2.1 vwCl (wL g mc mm) H → va_S (AA g s.heap.size) s.heap H locs → W p l e { frames := 1, cells := 0, slots := 0, locals := 25 } s m args below meth c H locs 0 0 (MQ below (QI g s.heap.size q (mc, mm)) args s 0 0 (AA g s.heap.size)) (F0 m 87 ls [.int s0]) := by
        intro a4 s0 hF H locs ls hl hP hS
        unfold F10_isCovered_b87 at hF
        refine lv_istore_n (lv' := [(3, .int s0), (0, .ref (g.1 108)), (1, .int v1), (2, .int v2), (4, .int a4)]) hx hb dX10_isCovered_87 rfl hl (Nat.le_of_ble_eq_true rfl) rfl (fun ls hl => ?_)
        refine lv_iinc (lv' := [(4, .int (a4 + (1 : Int32))), (3, .int s0), (0, .ref (g.1 108)), (1, .int v1), (2, .int v2)]) (v := (a4 + (1 : Int32))) hx hb dX10_isCovered_88 hl (k := 4) rfl (io_1 _) (Nat.le_of_ble_eq_true rfl) rfl (fun ls hl => ?_)
        refine lv_goto (tgt := 5) hx hb dX10_isCovered_91 rfl ?_
        exact ih _ _ hF _ _ _ (lv_sub hl [2, 3, 4, 1, 0] rfl) hP hS
      have hb82 : ∀ (a4 : Int32), F10_isCovered_b82 kh v1 v2 mm a4 = some q → ∀ (H : Heap) (locs : List Loc) (ls : Array Slot), lv_has ls 5 [(0, .ref (g.1 108)), (1, .int v1), (2, .int v2), (4, .int a4)] → va_P g.2.2.1 vwCl (wL g mc mm) H → va_S (AA g s.heap.size) s.heap H locs → W p l e { frames := 1, cells := 0, slots := 0, locals := 25 } s m args below meth c H locs 0 0 (MQ below (QI g s.heap.size q (mc, mm)) args s 0 0 (AA g s.heap.size)) (F0 m 82 ls []) := by
        intro a4 hF H locs ls hl hP hS
        unfold F10_isCovered_b82 at hF
        refine lv_iconst (v := (1 : Int32)) hx hb dX10_isCovered_82 ic_1 ?_
        refine lv_goto (tgt := 87) hx hb dX10_isCovered_83 rfl ?_
        exact hb87 _ _ hF _ _ _ (lv_sub hl [0, 1, 2, 3] rfl) hP hS
      have hb86 : ∀ (a4 : Int32), F10_isCovered_b86 kh v1 v2 mm a4 = some q → ∀ (H : Heap) (locs : List Loc) (ls : Array Slot), lv_has ls 5 [(0, .ref (g.1 108)), (1, .int v1), (2, .int v2), (4, .int a4)] → va_P g.2.2.1 vwCl (wL g mc mm) H → va_S (AA g s.heap.size) s.heap H locs → W p l e { frames := 1, cells := 0, slots := 0, locals := 25 } s m args below meth c H locs 0 0 (MQ below (QI g s.heap.size q (mc, mm)) args s 0 0 (AA g s.heap.size)) (F0 m 86 ls []) := by
        intro a4 hF H locs ls hl hP hS
        unfold F10_isCovered_b86 at hF
        refine lv_iconst (v := (0 : Int32)) hx hb dX10_isCovered_86 ic_0 ?_
        exact hb87 _ _ hF _ _ _ (lv_sub hl [0, 1, 2, 3] rfl) hP hS
      intro a3 a4 hF H locs ls hl hP hS
      have hF : F10_isCovered_p5 (F10_isCovered_h5 v1 v2 mm n) v1 v2 mm a3 a4 = some q := hF
      rw [hkh] at hF
      unfold F10_isCovered_p5 at hF
      refine lv_iload hx hb dX10_isCovered_5 (lv_at hl 4 rfl) ?_
      refine lv_aload_n hx hb dX10_isCovered_7 rfl (lv_at hl 0 rfl) ?_
      refine gf10_11 Z hP wd_18_4 dX10_isCovered_8 ?_
      refine lv_icmp_ge (tgt := 94) hx hb dX10_isCovered_11 rfl (fun hc => ?_) (fun hc => ?_)
      · have hF := (if_pos hc).symm.trans hF
        refine lv_iload_n hx hb dX10_isCovered_94 rfl (lv_at hl 3 rfl) ?_
        obtain ⟨hbz, hF⟩ := bz_ok hF
        exact ret_Z Z hr hlk hP hS hbz hF dX10_isCovered_95
      · have hF := (if_neg hc).symm.trans hF
        refine lv_iload_n hx hb dX10_isCovered_14 rfl (lv_at hl 3 rfl) ?_
        refine lv_if_ne (tgt := 82) hx hb dX10_isCovered_15 rfl (fun hc => ?_) (fun hc => ?_)
        · have hF := (if_neg hc).symm.trans hF
          exact hb82 _ hF _ _ _ (lv_sub hl [0, 1, 2, 4] rfl) hP hS
        · have hF := (if_pos hc).symm.trans hF
          refine lv_aload_n hx hb dX10_isCovered_18 rfl (lv_at hl 0 rfl) ?_
          refine gf10_13 Z hP wd_23_1 dX10_isCovered_19 ?_
          refine lv_iload hx hb dX10_isCovered_22 (lv_at hl 4 rfl) ?_
          obtain ⟨q6, hq6, hF⟩ := bd_ok hF
          refine xX10_isIn Z hP hS hq6 wd_23_2 hl.1 (Nat.le_of_ble_eq_true rfl) ⟨Nat.le_of_ble_eq_true rfl, Nat.le_of_ble_eq_true rfl⟩ dX10_isCovered_24 (fun H locs hP hS => ?_)
          refine lv_if_ne (tgt := 86) hx hb dX10_isCovered_27 rfl (fun hc => ?_) (fun hc => ?_)
          · have hF := (if_neg hc).symm.trans hF
            exact hb86 _ hF _ _ _ (lv_sub hl [0, 1, 2, 4] rfl) hP hS
          · have hF := (if_pos hc).symm.trans hF
            refine lv_aload_n hx hb dX10_isCovered_30 rfl (lv_at hl 0 rfl) ?_
            refine gf10_12 Z hP wd_6_12 dX10_isCovered_31 ?_
            refine lv_iconst (v := (3 : Int32)) hx hb dX10_isCovered_34 ic_3 ?_
            refine lv_iload hx hb dX10_isCovered_35 (lv_at hl 4 rfl) ?_
            refine lv_imul hx hb dX10_isCovered_37 ?_
            obtain ⟨hi7, hF⟩ := ck_ok hF
            refine rM_ld Z hP 24 9 (by decide +kernel) hi7 dX10_isCovered_38 ?_
            refine lv_iconst (v := (1 : Int32)) hx hb dX10_isCovered_39 ic_1 ?_
            refine lv_icmp_ne (tgt := 86) hx hb dX10_isCovered_40 rfl (fun hc => ?_) (fun hc => ?_)
            · have hF := (if_neg hc).symm.trans hF
              exact hb86 _ hF _ _ _ (lv_sub hl [0, 1, 2, 4] rfl) hP hS
            · have hF := (if_pos hc).symm.trans hF
              refine lv_aload_n hx hb dX10_isCovered_43 rfl (lv_at hl 0 rfl) ?_
              refine gf10_12 Z hP wd_6_12 dX10_isCovered_44 ?_
              refine lv_iconst (v := (3 : Int32)) hx hb dX10_isCovered_47 ic_3 ?_
              refine lv_iload hx hb dX10_isCovered_48 (lv_at hl 4 rfl) ?_
              refine lv_imul hx hb dX10_isCovered_50 ?_
              refine lv_iconst (v := (2 : Int32)) hx hb dX10_isCovered_51 ic_2 ?_
              refine lv_iadd hx hb dX10_isCovered_52 ?_
              obtain ⟨hi8, hF⟩ := ck_ok hF
              refine rM_ld Z hP 24 9 (by decide +kernel) hi8 dX10_isCovered_53 ?_
              refine lv_iload_n hx hb dX10_isCovered_54 rfl (lv_at hl 2 rfl) ?_
              refine lv_icmp_ne (tgt := 86) hx hb dX10_isCovered_55 rfl (fun hc => ?_) (fun hc => ?_)
              · have hF := (if_neg hc).symm.trans hF
                exact hb86 _ hF _ _ _ (lv_sub hl [0, 1, 2, 4] rfl) hP hS
              · have hF := (if_pos hc).symm.trans hF
                refine lv_iload_n hx hb dX10_isCovered_58 rfl (lv_at hl 1 rfl) ?_
                refine lv_aload_n hx hb dX10_isCovered_59 rfl (lv_at hl 0 rfl) ?_
                refine gf10_12 Z hP wd_6_12 dX10_isCovered_60 ?_
                refine lv_iconst (v := (3 : Int32)) hx hb dX10_isCovered_63 ic_3 ?_
                refine lv_iload hx hb dX10_isCovered_64 (lv_at hl 4 rfl) ?_
                refine lv_imul hx hb dX10_isCovered_66 ?_
                refine lv_iconst (v := (1 : Int32)) hx hb dX10_isCovered_67 ic_1 ?_
                refine lv_iadd hx hb dX10_isCovered_68 ?_
                obtain ⟨hi9, hF⟩ := ck_ok hF
                refine rM_ld Z hP 24 9 (by decide +kernel) hi9 dX10_isCovered_69 ?_
                refine lv_isub hx hb dX10_isCovered_70 ?_
                refine lv_i2l (v := (v1 - (mm 9 (((3 : Int32) * a4) + (1 : Int32)).toNatClampNeg)).toInt64) hx hb dX10_isCovered_71 rfl ?_
                refine lv_lconst (v := (0 : Int64)) hx hb dX10_isCovered_72 lc_0 ?_
                refine lv_ldc2 (v := (2 : Int64)) hx hb hown (hts _ wd_18_3) dX10_isCovered_73 ?_
                obtain ⟨q10, hq10, hF⟩ := bd_ok hF
                refine xX10_in Z hP hS hq10 wd_13_8 hl.1 (Nat.le_of_ble_eq_true rfl) ⟨Nat.le_of_ble_eq_true rfl, Nat.le_of_ble_eq_true rfl⟩ dX10_isCovered_76 (fun H locs hP hS => ?_)
                refine lv_if_eq (tgt := 86) hx hb dX10_isCovered_79 rfl (fun hc => ?_) (fun hc => ?_)
                · have hF := (if_pos hc).symm.trans hF
                  exact hb86 _ hF _ _ _ (lv_sub hl [0, 1, 2, 4] rfl) hP hS
                · have hF := (if_neg hc).symm.trans hF
                  exact hb82 _ hF _ _ _ (lv_sub hl [0, 1, 2, 4] rfl) hP hS
  refine lv_iconst (v := (0 : Int32)) hx hb dX10_isCovered_0 ic_0 ?_
  refine lv_istore_n (lv' := [(3, .int (0 : Int32)), (0, .ref (g.1 108)), (1, .int v1), (2, .int v2)]) hx hb dX10_isCovered_1 rfl hl (Nat.le_of_ble_eq_true rfl) rfl (fun ls hl => ?_)
  refine lv_iconst (v := (0 : Int32)) hx hb dX10_isCovered_2 ic_0 ?_
  refine lv_istore (lv' := [(4, .int (0 : Int32)), (3, .int (0 : Int32)), (0, .ref (g.1 108)), (1, .int v1), (2, .int v2)]) hx hb dX10_isCovered_3 hl (Nat.le_of_ble_eq_true rfl) rfl (fun ls hl => ?_)
  exact (hL5 FU) _ _ hF _ _ _ (lv_sub hl [2, 3, 4, 1, 0] rfl) hP hS
theorem xX10_isCovered {p : Program} {l : Launch} {e : Env} {R : Room} {s : State} {m : MethodId} {args : Array Value} {below : List Frame} {meth : Method} {c : Code} {H : Heap} {locs : List Loc} {Q : State → Prop} {cc : ByteArray} {nL : Nat} {own : String} {g : GG} {pc index : Nat} {ls : Array Slot} {rest : List Value} {mc mm : Mem} (Z : ZZ p s m args c cc nL own g) (hP : va_P g.2.2.1 vwCl (wL g mc mm) H) (hS : va_S (AA g s.heap.size) s.heap H locs) {v1 : Int32} {v2 : Int32} {q : Int32} (hq : F10_isCovered v1 v2 mm = some q) (hlk : Cond.methodLink own index yX10_isCovered ∈ wsL_law) (hsz : ls.size = nL) (hro : (rest.map fun v => v.category).sum ≤ 8) (hR : 1 + 1 ≤ R.frames ∧ 8 + (5 + 11) + 25 ≤ R.locals) (hdg : decode cc pc = .ok (.invokevirtual index, 3)) (kk : ∀ (H : Heap) (locs : List Loc), va_P g.2.2.1 vwCl (wL g mc mm) H → va_S (AA g s.heap.size) s.heap H locs → W p l e R s m args below meth c H locs 0 0 Q (F0 m (pc + 3) ls (.int q :: rest))) : W p l e R s m args below meth c H locs 0 0 Q (F0 m pc ls (.int v2 :: .int v1 :: .ref (g.1 108) :: rest)) :=
  x_VI Z hP hS (kX10_isCovered l g v1 v2 mc mm q hq) (mO) (ci := 10) (by decide) rfl rfl mf_X10_isCovered mv_X10_isCovered hlk rfl rfl hsz hro hR hdg kk
theorem dX10_isCoin_0 : decode cX10_isCoin 0 = .ok (.aload_n 0, 1) := by decide +kernel
theorem dX10_isCoin_1 : decode cX10_isCoin 1 = .ok (.getfield 77, 3) := by decide +kernel
theorem dX10_isCoin_4 : decode cX10_isCoin 4 = .ok (.iload_n 1, 1) := by decide +kernel
theorem dX10_isCoin_5 : decode cX10_isCoin 5 = .ok (.if_icmp .ne 15, 3) := by decide +kernel
theorem dX10_isCoin_8 : decode cX10_isCoin 8 = .ok (.aload_n 0, 1) := by decide +kernel
theorem dX10_isCoin_9 : decode cX10_isCoin 9 = .ok (.getfield 194, 3) := by decide +kernel
theorem dX10_isCoin_12 : decode cX10_isCoin 12 = .ok (.iload_n 2, 1) := by decide +kernel
theorem dX10_isCoin_13 : decode cX10_isCoin 13 = .ok (.if_icmp .ne 7, 3) := by decide +kernel
theorem dX10_isCoin_16 : decode cX10_isCoin 16 = .ok (.iconst 1, 1) := by decide +kernel
theorem dX10_isCoin_17 : decode cX10_isCoin 17 = .ok (.goto 4, 3) := by decide +kernel
theorem dX10_isCoin_20 : decode cX10_isCoin 20 = .ok (.iconst 0, 1) := by decide +kernel
theorem dX10_isCoin_21 : decode cX10_isCoin 21 = .ok (.istore_n 3, 1) := by decide +kernel
theorem dX10_isCoin_22 : decode cX10_isCoin 22 = .ok (.iconst 0, 1) := by decide +kernel
theorem dX10_isCoin_23 : decode cX10_isCoin 23 = .ok (.istore 4, 2) := by decide +kernel
theorem dX10_isCoin_25 : decode cX10_isCoin 25 = .ok (.iload 4, 2) := by decide +kernel
theorem dX10_isCoin_27 : decode cX10_isCoin 27 = .ok (.aload_n 0, 1) := by decide +kernel
theorem dX10_isCoin_28 : decode cX10_isCoin 28 = .ok (.getfield 172, 3) := by decide +kernel
theorem dX10_isCoin_31 : decode cX10_isCoin 31 = .ok (.if_icmp .ge 73, 3) := by decide +kernel
theorem dX10_isCoin_34 : decode cX10_isCoin 34 = .ok (.iload_n 3, 1) := by decide +kernel
theorem dX10_isCoin_35 : decode cX10_isCoin 35 = .ok (.ifCond .ne 57, 3) := by decide +kernel
theorem dX10_isCoin_38 : decode cX10_isCoin 38 = .ok (.aload_n 0, 1) := by decide +kernel
theorem dX10_isCoin_39 : decode cX10_isCoin 39 = .ok (.getfield 187, 3) := by decide +kernel
theorem dX10_isCoin_42 : decode cX10_isCoin 42 = .ok (.iload 4, 2) := by decide +kernel
theorem dX10_isCoin_44 : decode cX10_isCoin 44 = .ok (.invokestatic 190, 3) := by decide +kernel
theorem dX10_isCoin_47 : decode cX10_isCoin 47 = .ok (.ifCond .ne 49, 3) := by decide +kernel
theorem dX10_isCoin_50 : decode cX10_isCoin 50 = .ok (.aload_n 0, 1) := by decide +kernel
theorem dX10_isCoin_51 : decode cX10_isCoin 51 = .ok (.getfield 34, 3) := by decide +kernel
theorem dX10_isCoin_54 : decode cX10_isCoin 54 = .ok (.iconst 3, 1) := by decide +kernel
theorem dX10_isCoin_55 : decode cX10_isCoin 55 = .ok (.iload 4, 2) := by decide +kernel
theorem dX10_isCoin_57 : decode cX10_isCoin 57 = .ok (.imul, 1) := by decide +kernel
theorem dX10_isCoin_58 : decode cX10_isCoin 58 = .ok (.iaload, 1) := by decide +kernel
theorem dX10_isCoin_59 : decode cX10_isCoin 59 = .ok (.ifCond .ne 37, 3) := by decide +kernel
theorem dX10_isCoin_62 : decode cX10_isCoin 62 = .ok (.aload_n 0, 1) := by decide +kernel
theorem dX10_isCoin_63 : decode cX10_isCoin 63 = .ok (.getfield 34, 3) := by decide +kernel
theorem dX10_isCoin_66 : decode cX10_isCoin 66 = .ok (.iconst 3, 1) := by decide +kernel
theorem dX10_isCoin_67 : decode cX10_isCoin 67 = .ok (.iload 4, 2) := by decide +kernel
theorem dX10_isCoin_69 : decode cX10_isCoin 69 = .ok (.imul, 1) := by decide +kernel
theorem dX10_isCoin_70 : decode cX10_isCoin 70 = .ok (.iconst 1, 1) := by decide +kernel
theorem dX10_isCoin_71 : decode cX10_isCoin 71 = .ok (.iadd, 1) := by decide +kernel
theorem dX10_isCoin_72 : decode cX10_isCoin 72 = .ok (.iaload, 1) := by decide +kernel
theorem dX10_isCoin_73 : decode cX10_isCoin 73 = .ok (.iload_n 1, 1) := by decide +kernel
theorem dX10_isCoin_74 : decode cX10_isCoin 74 = .ok (.if_icmp .ne 22, 3) := by decide +kernel
theorem dX10_isCoin_77 : decode cX10_isCoin 77 = .ok (.aload_n 0, 1) := by decide +kernel
theorem dX10_isCoin_78 : decode cX10_isCoin 78 = .ok (.getfield 34, 3) := by decide +kernel
theorem dX10_isCoin_81 : decode cX10_isCoin 81 = .ok (.iconst 3, 1) := by decide +kernel
theorem dX10_isCoin_82 : decode cX10_isCoin 82 = .ok (.iload 4, 2) := by decide +kernel
theorem dX10_isCoin_84 : decode cX10_isCoin 84 = .ok (.imul, 1) := by decide +kernel
theorem dX10_isCoin_85 : decode cX10_isCoin 85 = .ok (.iconst 2, 1) := by decide +kernel
theorem dX10_isCoin_86 : decode cX10_isCoin 86 = .ok (.iadd, 1) := by decide +kernel
theorem dX10_isCoin_87 : decode cX10_isCoin 87 = .ok (.iaload, 1) := by decide +kernel
theorem dX10_isCoin_88 : decode cX10_isCoin 88 = .ok (.iload_n 2, 1) := by decide +kernel
theorem dX10_isCoin_89 : decode cX10_isCoin 89 = .ok (.if_icmp .ne 7, 3) := by decide +kernel
theorem dX10_isCoin_92 : decode cX10_isCoin 92 = .ok (.iconst 1, 1) := by decide +kernel
theorem dX10_isCoin_93 : decode cX10_isCoin 93 = .ok (.goto 4, 3) := by decide +kernel
theorem dX10_isCoin_96 : decode cX10_isCoin 96 = .ok (.iconst 0, 1) := by decide +kernel
theorem dX10_isCoin_97 : decode cX10_isCoin 97 = .ok (.istore_n 3, 1) := by decide +kernel
theorem dX10_isCoin_98 : decode cX10_isCoin 98 = .ok (.iinc 4 1, 3) := by decide +kernel
theorem dX10_isCoin_101 : decode cX10_isCoin 101 = .ok (.goto (-76), 3) := by decide +kernel
theorem dX10_isCoin_104 : decode cX10_isCoin 104 = .ok (.iload_n 3, 1) := by decide +kernel
theorem dX10_isCoin_105 : decode cX10_isCoin 105 = .ok (.ireturn, 1) := by decide +kernel
noncomputable def F10_isCoin_b97 (kh : Int32 → Int32 → Option (Int32)) (v1 : Int32) (v2 : Int32) (mm : Mem) (a4 : Int32) (s0 : Int32) : Option (Int32) :=
  kh s0 (a4 + (1 : Int32))
noncomputable def F10_isCoin_b92 (kh : Int32 → Int32 → Option (Int32)) (v1 : Int32) (v2 : Int32) (mm : Mem) (a4 : Int32) : Option (Int32) :=
  (F10_isCoin_b97 kh v1 v2 mm) a4 (1 : Int32)
noncomputable def F10_isCoin_b96 (kh : Int32 → Int32 → Option (Int32)) (v1 : Int32) (v2 : Int32) (mm : Mem) (a4 : Int32) : Option (Int32) :=
  (F10_isCoin_b97 kh v1 v2 mm) a4 (0 : Int32)
noncomputable def F10_isCoin_p25 (kh : Int32 → Int32 → Option (Int32)) (v1 : Int32) (v2 : Int32) (mm : Mem) (a3 : Int32) (a4 : Int32) : Option (Int32) :=
  (if (mm 0 11) ≤ a4 then (bz a3 (some a3)) else (if a3 = (0 : Int32) then ((F10_isIn (mm 0 13) a4).bind (fun q5 => (if q5 = (0 : Int32) then (ck ((3 : Int32) * a4) 24 (if (mm 9 ((3 : Int32) * a4).toNatClampNeg) = (0 : Int32) then (ck (((3 : Int32) * a4) + (1 : Int32)) 24 (if (mm 9 (((3 : Int32) * a4) + (1 : Int32)).toNatClampNeg) = v1 then (ck (((3 : Int32) * a4) + (2 : Int32)) 24 (if (mm 9 (((3 : Int32) * a4) + (2 : Int32)).toNatClampNeg) = v2 then (F10_isCoin_b92 kh v1 v2 mm) a4 else (F10_isCoin_b96 kh v1 v2 mm) a4)) else (F10_isCoin_b96 kh v1 v2 mm) a4)) else (F10_isCoin_b96 kh v1 v2 mm) a4)) else (F10_isCoin_b96 kh v1 v2 mm) a4))) else (F10_isCoin_b92 kh v1 v2 mm) a4))
noncomputable def F10_isCoin_h25 (v1 : Int32) (v2 : Int32) (mm : Mem) : Nat → Int32 → Int32 → Option (Int32)
  | 0, _, _ => none
  | n + 1, a3, a4 => F10_isCoin_p25 (F10_isCoin_h25 v1 v2 mm n) v1 v2 mm a3 a4
noncomputable def F10_isCoin_b21 (v1 : Int32) (v2 : Int32) (mm : Mem) (s0 : Int32) : Option (Int32) :=
  (F10_isCoin_h25 v1 v2 mm FU) s0 (0 : Int32)
noncomputable def F10_isCoin_b20 (v1 : Int32) (v2 : Int32) (mm : Mem) : Option (Int32) :=
  (F10_isCoin_b21 v1 v2 mm) (0 : Int32)
noncomputable def F10_isCoin (v1 : Int32) (v2 : Int32) (mm : Mem) : Option (Int32) :=
  (if (mm 0 14) = v1 then (if (mm 0 15) = v2 then (F10_isCoin_b21 v1 v2 mm) (1 : Int32) else (F10_isCoin_b20 v1 v2 mm)) else (F10_isCoin_b20 v1 v2 mm))
set_option maxHeartbeats 4000000 in
set_option maxRecDepth 100000 in
theorem kX10_isCoin (l : Launch) (g : GG) (v1 : Int32) (v2 : Int32) (mc mm : Mem) (q : Int32) (hF : F10_isCoin v1 v2 mm = some q) : KI l yX10_isCoin cX10_isCoin 5 .boolean 1 21 g [.ref (g.1 108), .int v1, .int v2] mc mm q (mc, mm) := by
  intro sz
  refine x_start (Qc := fun z => QI g z q (mc, mm)) (by decide +kernel) (Nat.le_of_ble_eq_true rfl) ?_ sz
  intro p e s m args below meth c ls Z hr hlk hP hl
  have hx := Z.1.1
  have hb := Z.1.2.1
  have hown := Z.1.2.2.2.1
  have hts := Z.1.2.2.2.2
  have hS : va_S (AA g s.heap.size) s.heap s.heap [] := va_S.rf
  have hl : lv_has ls 5 [(0, .ref (g.1 108)), (1, .int v1), (2, .int v2)] := hl
  unfold F10_isCoin at hF
  have hL25 : ∀ n : Nat, ∀ (a3 : Int32) (a4 : Int32), F10_isCoin_h25 v1 v2 mm n a3 a4 = some q → ∀ (H : Heap) (locs : List Loc) (ls : Array Slot), lv_has ls 5 [(0, .ref (g.1 108)), (1, .int v1), (2, .int v2), (3, .int a3), (4, .int a4)] → va_P g.2.2.1 vwCl (wL g mc mm) H → va_S (AA g s.heap.size) s.heap H locs → W p l e { frames := 1, cells := 0, slots := 0, locals := 21 } s m args below meth c H locs 0 0 (MQ below (QI g s.heap.size q (mc, mm)) args s 0 0 (AA g s.heap.size)) (F0 m 25 ls []) := by
    intro n
    induction n with
    | zero => intro a3 a4 hF H locs ls hl hP hS; exact absurd hF (fun z => nomatch (show (none : Option _) = some q from z))
    | succ n ih =>
      generalize hkh : F10_isCoin_h25 v1 v2 mm n = kh at ih
      have hb97 : ∀ (a4 : Int32) (s0 : Int32), F10_isCoin_b97 kh v1 v2 mm a4 s0 = some q → ∀ (H : Heap) (locs : List Loc) (ls : Array Slot), lv_has ls 5 [(0, .ref (g.1 108)), (1, .int v1), (2, .int v2), (4, .int a4)] → va_P g.2.2.1 vwCl (wL g mc mm) H → va_S (AA g s.heap.size) s.heap H locs → W p l e { frames := 1, cells := 0, slots := 0, locals := 21 } s m args below meth c H locs 0 0 (MQ below (QI g s.heap.size q (mc, mm)) args s 0 0 (AA g s.heap.size)) (F0 m 97 ls [.int s0]) := by
        intro a4 s0 hF H locs ls hl hP hS
        unfold F10_isCoin_b97 at hF
        refine lv_istore_n (lv' := [(3, .int s0), (0, .ref (g.1 108)), (1, .int v1), (2, .int v2), (4, .int a4)]) hx hb dX10_isCoin_97 rfl hl (Nat.le_of_ble_eq_true rfl) rfl (fun ls hl => ?_)
        refine lv_iinc (lv' := [(4, .int (a4 + (1 : Int32))), (3, .int s0), (0, .ref (g.1 108)), (1, .int v1), (2, .int v2)]) (v := (a4 + (1 : Int32))) hx hb dX10_isCoin_98 hl (k := 4) rfl (io_1 _) (Nat.le_of_ble_eq_true rfl) rfl (fun ls hl => ?_)
        refine lv_goto (tgt := 25) hx hb dX10_isCoin_101 rfl ?_
        exact ih _ _ hF _ _ _ (lv_sub hl [2, 3, 4, 1, 0] rfl) hP hS
      have hb92 : ∀ (a4 : Int32), F10_isCoin_b92 kh v1 v2 mm a4 = some q → ∀ (H : Heap) (locs : List Loc) (ls : Array Slot), lv_has ls 5 [(0, .ref (g.1 108)), (1, .int v1), (2, .int v2), (4, .int a4)] → va_P g.2.2.1 vwCl (wL g mc mm) H → va_S (AA g s.heap.size) s.heap H locs → W p l e { frames := 1, cells := 0, slots := 0, locals := 21 } s m args below meth c H locs 0 0 (MQ below (QI g s.heap.size q (mc, mm)) args s 0 0 (AA g s.heap.size)) (F0 m 92 ls []) := by
        intro a4 hF H locs ls hl hP hS
        unfold F10_isCoin_b92 at hF
        refine lv_iconst (v := (1 : Int32)) hx hb dX10_isCoin_92 ic_1 ?_
        refine lv_goto (tgt := 97) hx hb dX10_isCoin_93 rfl ?_
        exact hb97 _ _ hF _ _ _ (lv_sub hl [0, 1, 2, 3] rfl) hP hS
      have hb96 : ∀ (a4 : Int32), F10_isCoin_b96 kh v1 v2 mm a4 = some q → ∀ (H : Heap) (locs : List Loc) (ls : Array Slot), lv_has ls 5 [(0, .ref (g.1 108)), (1, .int v1), (2, .int v2), (4, .int a4)] → va_P g.2.2.1 vwCl (wL g mc mm) H → va_S (AA g s.heap.size) s.heap H locs → W p l e { frames := 1, cells := 0, slots := 0, locals := 21 } s m args below meth c H locs 0 0 (MQ below (QI g s.heap.size q (mc, mm)) args s 0 0 (AA g s.heap.size)) (F0 m 96 ls []) := by
        intro a4 hF H locs ls hl hP hS
        unfold F10_isCoin_b96 at hF
        refine lv_iconst (v := (0 : Int32)) hx hb dX10_isCoin_96 ic_0 ?_
        exact hb97 _ _ hF _ _ _ (lv_sub hl [0, 1, 2, 3] rfl) hP hS
      intro a3 a4 hF H locs ls hl hP hS
      have hF : F10_isCoin_p25 (F10_isCoin_h25 v1 v2 mm n) v1 v2 mm a3 a4 = some q := hF
      rw [hkh] at hF
      unfold F10_isCoin_p25 at hF
      refine lv_iload hx hb dX10_isCoin_25 (lv_at hl 4 rfl) ?_
      refine lv_aload_n hx hb dX10_isCoin_27 rfl (lv_at hl 0 rfl) ?_
      refine gf10_11 Z hP wd_18_4 dX10_isCoin_28 ?_
      refine lv_icmp_ge (tgt := 104) hx hb dX10_isCoin_31 rfl (fun hc => ?_) (fun hc => ?_)
      · have hF := (if_pos hc).symm.trans hF
        refine lv_iload_n hx hb dX10_isCoin_104 rfl (lv_at hl 3 rfl) ?_
        obtain ⟨hbz, hF⟩ := bz_ok hF
        exact ret_Z Z hr hlk hP hS hbz hF dX10_isCoin_105
      · have hF := (if_neg hc).symm.trans hF
        refine lv_iload_n hx hb dX10_isCoin_34 rfl (lv_at hl 3 rfl) ?_
        refine lv_if_ne (tgt := 92) hx hb dX10_isCoin_35 rfl (fun hc => ?_) (fun hc => ?_)
        · have hF := (if_neg hc).symm.trans hF
          exact hb92 _ hF _ _ _ (lv_sub hl [0, 1, 2, 4] rfl) hP hS
        · have hF := (if_pos hc).symm.trans hF
          refine lv_aload_n hx hb dX10_isCoin_38 rfl (lv_at hl 0 rfl) ?_
          refine gf10_13 Z hP wd_23_1 dX10_isCoin_39 ?_
          refine lv_iload hx hb dX10_isCoin_42 (lv_at hl 4 rfl) ?_
          obtain ⟨q5, hq5, hF⟩ := bd_ok hF
          refine xX10_isIn Z hP hS hq5 wd_23_2 hl.1 (Nat.le_of_ble_eq_true rfl) ⟨Nat.le_of_ble_eq_true rfl, Nat.le_of_ble_eq_true rfl⟩ dX10_isCoin_44 (fun H locs hP hS => ?_)
          refine lv_if_ne (tgt := 96) hx hb dX10_isCoin_47 rfl (fun hc => ?_) (fun hc => ?_)
          · have hF := (if_neg hc).symm.trans hF
            exact hb96 _ hF _ _ _ (lv_sub hl [0, 1, 2, 4] rfl) hP hS
          · have hF := (if_pos hc).symm.trans hF
            refine lv_aload_n hx hb dX10_isCoin_50 rfl (lv_at hl 0 rfl) ?_
            refine gf10_12 Z hP wd_6_12 dX10_isCoin_51 ?_
            refine lv_iconst (v := (3 : Int32)) hx hb dX10_isCoin_54 ic_3 ?_
            refine lv_iload hx hb dX10_isCoin_55 (lv_at hl 4 rfl) ?_
            refine lv_imul hx hb dX10_isCoin_57 ?_
            obtain ⟨hi6, hF⟩ := ck_ok hF
            refine rM_ld Z hP 24 9 (by decide +kernel) hi6 dX10_isCoin_58 ?_
            refine lv_if_ne (tgt := 96) hx hb dX10_isCoin_59 rfl (fun hc => ?_) (fun hc => ?_)
            · have hF := (if_neg hc).symm.trans hF
              exact hb96 _ hF _ _ _ (lv_sub hl [0, 1, 2, 4] rfl) hP hS
            · have hF := (if_pos hc).symm.trans hF
              refine lv_aload_n hx hb dX10_isCoin_62 rfl (lv_at hl 0 rfl) ?_
              refine gf10_12 Z hP wd_6_12 dX10_isCoin_63 ?_
              refine lv_iconst (v := (3 : Int32)) hx hb dX10_isCoin_66 ic_3 ?_
              refine lv_iload hx hb dX10_isCoin_67 (lv_at hl 4 rfl) ?_
              refine lv_imul hx hb dX10_isCoin_69 ?_
              refine lv_iconst (v := (1 : Int32)) hx hb dX10_isCoin_70 ic_1 ?_
              refine lv_iadd hx hb dX10_isCoin_71 ?_
              obtain ⟨hi7, hF⟩ := ck_ok hF
              refine rM_ld Z hP 24 9 (by decide +kernel) hi7 dX10_isCoin_72 ?_
              refine lv_iload_n hx hb dX10_isCoin_73 rfl (lv_at hl 1 rfl) ?_
              refine lv_icmp_ne (tgt := 96) hx hb dX10_isCoin_74 rfl (fun hc => ?_) (fun hc => ?_)
              · have hF := (if_neg hc).symm.trans hF
                exact hb96 _ hF _ _ _ (lv_sub hl [0, 1, 2, 4] rfl) hP hS
              · have hF := (if_pos hc).symm.trans hF
                refine lv_aload_n hx hb dX10_isCoin_77 rfl (lv_at hl 0 rfl) ?_
                refine gf10_12 Z hP wd_6_12 dX10_isCoin_78 ?_
                refine lv_iconst (v := (3 : Int32)) hx hb dX10_isCoin_81 ic_3 ?_
                refine lv_iload hx hb dX10_isCoin_82 (lv_at hl 4 rfl) ?_
                refine lv_imul hx hb dX10_isCoin_84 ?_
                refine lv_iconst (v := (2 : Int32)) hx hb dX10_isCoin_85 ic_2 ?_
                refine lv_iadd hx hb dX10_isCoin_86 ?_
                obtain ⟨hi8, hF⟩ := ck_ok hF
                refine rM_ld Z hP 24 9 (by decide +kernel) hi8 dX10_isCoin_87 ?_
                refine lv_iload_n hx hb dX10_isCoin_88 rfl (lv_at hl 2 rfl) ?_
                refine lv_icmp_ne (tgt := 96) hx hb dX10_isCoin_89 rfl (fun hc => ?_) (fun hc => ?_)
                · have hF := (if_neg hc).symm.trans hF
                  exact hb96 _ hF _ _ _ (lv_sub hl [0, 1, 2, 4] rfl) hP hS
                · have hF := (if_pos hc).symm.trans hF
                  exact hb92 _ hF _ _ _ (lv_sub hl [0, 1, 2, 4] rfl) hP hS
  have hb21 : ∀ (s0 : Int32), F10_isCoin_b21 v1 v2 mm s0 = some q → ∀ (H : Heap) (locs : List Loc) (ls : Array Slot), lv_has ls 5 [(0, .ref (g.1 108)), (1, .int v1), (2, .int v2)] → va_P g.2.2.1 vwCl (wL g mc mm) H → va_S (AA g s.heap.size) s.heap H locs → W p l e { frames := 1, cells := 0, slots := 0, locals := 21 } s m args below meth c H locs 0 0 (MQ below (QI g s.heap.size q (mc, mm)) args s 0 0 (AA g s.heap.size)) (F0 m 21 ls [.int s0]) := by
    intro s0 hF H locs ls hl hP hS
    unfold F10_isCoin_b21 at hF
    refine lv_istore_n (lv' := [(3, .int s0), (0, .ref (g.1 108)), (1, .int v1), (2, .int v2)]) hx hb dX10_isCoin_21 rfl hl (Nat.le_of_ble_eq_true rfl) rfl (fun ls hl => ?_)
    refine lv_iconst (v := (0 : Int32)) hx hb dX10_isCoin_22 ic_0 ?_
    refine lv_istore (lv' := [(4, .int (0 : Int32)), (3, .int s0), (0, .ref (g.1 108)), (1, .int v1), (2, .int v2)]) hx hb dX10_isCoin_23 hl (Nat.le_of_ble_eq_true rfl) rfl (fun ls hl => ?_)
    exact (hL25 FU) _ _ hF _ _ _ (lv_sub hl [2, 3, 4, 1, 0] rfl) hP hS
  have hb20 : F10_isCoin_b20 v1 v2 mm = some q → ∀ (H : Heap) (locs : List Loc) (ls : Array Slot), lv_has ls 5 [(0, .ref (g.1 108)), (1, .int v1), (2, .int v2)] → va_P g.2.2.1 vwCl (wL g mc mm) H → va_S (AA g s.heap.size) s.heap H locs → W p l e { frames := 1, cells := 0, slots := 0, locals := 21 } s m args below meth c H locs 0 0 (MQ below (QI g s.heap.size q (mc, mm)) args s 0 0 (AA g s.heap.size)) (F0 m 20 ls []) := by
    intro hF H locs ls hl hP hS
    unfold F10_isCoin_b20 at hF
    refine lv_iconst (v := (0 : Int32)) hx hb dX10_isCoin_20 ic_0 ?_
    exact hb21 _ hF _ _ _ (lv_sub hl [0, 1, 2] rfl) hP hS
  refine lv_aload_n hx hb dX10_isCoin_0 rfl (lv_at hl 0 rfl) ?_
  refine gf10_14 Z hP wd_7_2 dX10_isCoin_1 ?_
  refine lv_iload_n hx hb dX10_isCoin_4 rfl (lv_at hl 1 rfl) ?_
  refine lv_icmp_ne (tgt := 20) hx hb dX10_isCoin_5 rfl (fun hc => ?_) (fun hc => ?_)
  · have hF := (if_neg hc).symm.trans hF
    exact hb20  hF _ _ _ (lv_sub hl [0, 1, 2] rfl) hP hS
  · have hF := (if_pos hc).symm.trans hF
    refine lv_aload_n hx hb dX10_isCoin_8 rfl (lv_at hl 0 rfl) ?_
    refine gf10_15 Z hP wd_24_9 dX10_isCoin_9 ?_
    refine lv_iload_n hx hb dX10_isCoin_12 rfl (lv_at hl 2 rfl) ?_
    refine lv_icmp_ne (tgt := 20) hx hb dX10_isCoin_13 rfl (fun hc => ?_) (fun hc => ?_)
    · have hF := (if_neg hc).symm.trans hF
      exact hb20  hF _ _ _ (lv_sub hl [0, 1, 2] rfl) hP hS
    · have hF := (if_pos hc).symm.trans hF
      refine lv_iconst (v := (1 : Int32)) hx hb dX10_isCoin_16 ic_1 ?_
      refine lv_goto (tgt := 21) hx hb dX10_isCoin_17 rfl ?_
      exact hb21 _ hF _ _ _ (lv_sub hl [0, 1, 2] rfl) hP hS
theorem xX10_isCoin {p : Program} {l : Launch} {e : Env} {R : Room} {s : State} {m : MethodId} {args : Array Value} {below : List Frame} {meth : Method} {c : Code} {H : Heap} {locs : List Loc} {Q : State → Prop} {cc : ByteArray} {nL : Nat} {own : String} {g : GG} {pc index : Nat} {ls : Array Slot} {rest : List Value} {mc mm : Mem} (Z : ZZ p s m args c cc nL own g) (hP : va_P g.2.2.1 vwCl (wL g mc mm) H) (hS : va_S (AA g s.heap.size) s.heap H locs) {v1 : Int32} {v2 : Int32} {q : Int32} (hq : F10_isCoin v1 v2 mm = some q) (hlk : Cond.methodLink own index yX10_isCoin ∈ wsL_law) (hsz : ls.size = nL) (hro : (rest.map fun v => v.category).sum ≤ 8) (hR : 1 + 1 ≤ R.frames ∧ 8 + (5 + 11) + 21 ≤ R.locals) (hdg : decode cc pc = .ok (.invokevirtual index, 3)) (kk : ∀ (H : Heap) (locs : List Loc), va_P g.2.2.1 vwCl (wL g mc mm) H → va_S (AA g s.heap.size) s.heap H locs → W p l e R s m args below meth c H locs 0 0 Q (F0 m (pc + 3) ls (.int q :: rest))) : W p l e R s m args below meth c H locs 0 0 Q (F0 m pc ls (.int v2 :: .int v1 :: .ref (g.1 108) :: rest)) :=
  x_VI Z hP hS (kX10_isCoin l g v1 v2 mc mm q hq) (mO) (ci := 10) (by decide) rfl rfl mf_X10_isCoin mv_X10_isCoin hlk rfl rfl hsz hro hR hdg kk
theorem dX10_isDrought_0 : decode cX10_isDrought 0 = .ok (.iconst 0, 1) := by decide +kernel
theorem dX10_isDrought_1 : decode cX10_isDrought 1 = .ok (.istore_n 2, 1) := by decide +kernel
theorem dX10_isDrought_2 : decode cX10_isDrought 2 = .ok (.iconst 0, 1) := by decide +kernel
theorem dX10_isDrought_3 : decode cX10_isDrought 3 = .ok (.istore_n 3, 1) := by decide +kernel
theorem dX10_isDrought_4 : decode cX10_isDrought 4 = .ok (.iload_n 3, 1) := by decide +kernel
theorem dX10_isDrought_5 : decode cX10_isDrought 5 = .ok (.aload_n 0, 1) := by decide +kernel
theorem dX10_isDrought_6 : decode cX10_isDrought 6 = .ok (.getfield 172, 3) := by decide +kernel
theorem dX10_isDrought_9 : decode cX10_isDrought 9 = .ok (.if_icmp .ge 56, 3) := by decide +kernel
theorem dX10_isDrought_12 : decode cX10_isDrought 12 = .ok (.iload_n 2, 1) := by decide +kernel
theorem dX10_isDrought_13 : decode cX10_isDrought 13 = .ok (.ifCond .ne 40, 3) := by decide +kernel
theorem dX10_isDrought_16 : decode cX10_isDrought 16 = .ok (.aload_n 0, 1) := by decide +kernel
theorem dX10_isDrought_17 : decode cX10_isDrought 17 = .ok (.getfield 187, 3) := by decide +kernel
theorem dX10_isDrought_20 : decode cX10_isDrought 20 = .ok (.iload_n 3, 1) := by decide +kernel
theorem dX10_isDrought_21 : decode cX10_isDrought 21 = .ok (.invokestatic 190, 3) := by decide +kernel
theorem dX10_isDrought_24 : decode cX10_isDrought 24 = .ok (.ifCond .ne 33, 3) := by decide +kernel
theorem dX10_isDrought_27 : decode cX10_isDrought 27 = .ok (.aload_n 0, 1) := by decide +kernel
theorem dX10_isDrought_28 : decode cX10_isDrought 28 = .ok (.getfield 34, 3) := by decide +kernel
theorem dX10_isDrought_31 : decode cX10_isDrought 31 = .ok (.iconst 3, 1) := by decide +kernel
theorem dX10_isDrought_32 : decode cX10_isDrought 32 = .ok (.iload_n 3, 1) := by decide +kernel
theorem dX10_isDrought_33 : decode cX10_isDrought 33 = .ok (.imul, 1) := by decide +kernel
theorem dX10_isDrought_34 : decode cX10_isDrought 34 = .ok (.iaload, 1) := by decide +kernel
theorem dX10_isDrought_35 : decode cX10_isDrought 35 = .ok (.iconst 2, 1) := by decide +kernel
theorem dX10_isDrought_36 : decode cX10_isDrought 36 = .ok (.if_icmp .ne 21, 3) := by decide +kernel
theorem dX10_isDrought_39 : decode cX10_isDrought 39 = .ok (.aload_n 0, 1) := by decide +kernel
theorem dX10_isDrought_40 : decode cX10_isDrought 40 = .ok (.getfield 34, 3) := by decide +kernel
theorem dX10_isDrought_43 : decode cX10_isDrought 43 = .ok (.iconst 3, 1) := by decide +kernel
theorem dX10_isDrought_44 : decode cX10_isDrought 44 = .ok (.iload_n 3, 1) := by decide +kernel
theorem dX10_isDrought_45 : decode cX10_isDrought 45 = .ok (.imul, 1) := by decide +kernel
theorem dX10_isDrought_46 : decode cX10_isDrought 46 = .ok (.iconst 1, 1) := by decide +kernel
theorem dX10_isDrought_47 : decode cX10_isDrought 47 = .ok (.iadd, 1) := by decide +kernel
theorem dX10_isDrought_48 : decode cX10_isDrought 48 = .ok (.iaload, 1) := by decide +kernel
theorem dX10_isDrought_49 : decode cX10_isDrought 49 = .ok (.iload_n 1, 1) := by decide +kernel
theorem dX10_isDrought_50 : decode cX10_isDrought 50 = .ok (.if_icmp .ne 7, 3) := by decide +kernel
theorem dX10_isDrought_53 : decode cX10_isDrought 53 = .ok (.iconst 1, 1) := by decide +kernel
theorem dX10_isDrought_54 : decode cX10_isDrought 54 = .ok (.goto 4, 3) := by decide +kernel
theorem dX10_isDrought_57 : decode cX10_isDrought 57 = .ok (.iconst 0, 1) := by decide +kernel
theorem dX10_isDrought_58 : decode cX10_isDrought 58 = .ok (.istore_n 2, 1) := by decide +kernel
theorem dX10_isDrought_59 : decode cX10_isDrought 59 = .ok (.iinc 3 1, 3) := by decide +kernel
theorem dX10_isDrought_62 : decode cX10_isDrought 62 = .ok (.goto (-58), 3) := by decide +kernel
theorem dX10_isDrought_65 : decode cX10_isDrought 65 = .ok (.iload_n 2, 1) := by decide +kernel
theorem dX10_isDrought_66 : decode cX10_isDrought 66 = .ok (.ireturn, 1) := by decide +kernel
noncomputable def F10_isDrought_b58 (kh : Int32 → Int32 → Option (Int32)) (v1 : Int32) (mm : Mem) (a3 : Int32) (s0 : Int32) : Option (Int32) :=
  kh s0 (a3 + (1 : Int32))
noncomputable def F10_isDrought_b53 (kh : Int32 → Int32 → Option (Int32)) (v1 : Int32) (mm : Mem) (a3 : Int32) : Option (Int32) :=
  (F10_isDrought_b58 kh v1 mm) a3 (1 : Int32)
noncomputable def F10_isDrought_b57 (kh : Int32 → Int32 → Option (Int32)) (v1 : Int32) (mm : Mem) (a3 : Int32) : Option (Int32) :=
  (F10_isDrought_b58 kh v1 mm) a3 (0 : Int32)
noncomputable def F10_isDrought_p4 (kh : Int32 → Int32 → Option (Int32)) (v1 : Int32) (mm : Mem) (a2 : Int32) (a3 : Int32) : Option (Int32) :=
  (if (mm 0 11) ≤ a3 then (bz a2 (some a2)) else (if a2 = (0 : Int32) then ((F10_isIn (mm 0 13) a3).bind (fun q4 => (if q4 = (0 : Int32) then (ck ((3 : Int32) * a3) 24 (if (mm 9 ((3 : Int32) * a3).toNatClampNeg) = (2 : Int32) then (ck (((3 : Int32) * a3) + (1 : Int32)) 24 (if (mm 9 (((3 : Int32) * a3) + (1 : Int32)).toNatClampNeg) = v1 then (F10_isDrought_b53 kh v1 mm) a3 else (F10_isDrought_b57 kh v1 mm) a3)) else (F10_isDrought_b57 kh v1 mm) a3)) else (F10_isDrought_b57 kh v1 mm) a3))) else (F10_isDrought_b53 kh v1 mm) a3))
noncomputable def F10_isDrought_h4 (v1 : Int32) (mm : Mem) : Nat → Int32 → Int32 → Option (Int32)
  | 0, _, _ => none
  | n + 1, a2, a3 => F10_isDrought_p4 (F10_isDrought_h4 v1 mm n) v1 mm a2 a3
noncomputable def F10_isDrought (v1 : Int32) (mm : Mem) : Option (Int32) :=
  (F10_isDrought_h4 v1 mm FU) (0 : Int32) (0 : Int32)
set_option maxHeartbeats 4000000 in
set_option maxRecDepth 100000 in
theorem kX10_isDrought (l : Launch) (g : GG) (v1 : Int32) (mc mm : Mem) (q : Int32) (hF : F10_isDrought v1 mm = some q) : KI l yX10_isDrought cX10_isDrought 4 .boolean 1 21 g [.ref (g.1 108), .int v1] mc mm q (mc, mm) := by
  intro sz
  refine x_start (Qc := fun z => QI g z q (mc, mm)) (by decide +kernel) (Nat.le_of_ble_eq_true rfl) ?_ sz
  intro p e s m args below meth c ls Z hr hlk hP hl
  have hx := Z.1.1
  have hb := Z.1.2.1
  have hown := Z.1.2.2.2.1
  have hts := Z.1.2.2.2.2
  have hS : va_S (AA g s.heap.size) s.heap s.heap [] := va_S.rf
  have hl : lv_has ls 4 [(0, .ref (g.1 108)), (1, .int v1)] := hl
  unfold F10_isDrought at hF
  have hL4 : ∀ n : Nat, ∀ (a2 : Int32) (a3 : Int32), F10_isDrought_h4 v1 mm n a2 a3 = some q → ∀ (H : Heap) (locs : List Loc) (ls : Array Slot), lv_has ls 4 [(0, .ref (g.1 108)), (1, .int v1), (2, .int a2), (3, .int a3)] → va_P g.2.2.1 vwCl (wL g mc mm) H → va_S (AA g s.heap.size) s.heap H locs → W p l e { frames := 1, cells := 0, slots := 0, locals := 21 } s m args below meth c H locs 0 0 (MQ below (QI g s.heap.size q (mc, mm)) args s 0 0 (AA g s.heap.size)) (F0 m 4 ls []) := by
    intro n
    induction n with
    | zero => intro a2 a3 hF H locs ls hl hP hS; exact absurd hF (fun z => nomatch (show (none : Option _) = some q from z))
    | succ n ih =>
      generalize hkh : F10_isDrought_h4 v1 mm n = kh at ih
      have hb58 : ∀ (a3 : Int32) (s0 : Int32), F10_isDrought_b58 kh v1 mm a3 s0 = some q → ∀ (H : Heap) (locs : List Loc) (ls : Array Slot), lv_has ls 4 [(0, .ref (g.1 108)), (1, .int v1), (3, .int a3)] → va_P g.2.2.1 vwCl (wL g mc mm) H → va_S (AA g s.heap.size) s.heap H locs → W p l e { frames := 1, cells := 0, slots := 0, locals := 21 } s m args below meth c H locs 0 0 (MQ below (QI g s.heap.size q (mc, mm)) args s 0 0 (AA g s.heap.size)) (F0 m 58 ls [.int s0]) := by
        intro a3 s0 hF H locs ls hl hP hS
        unfold F10_isDrought_b58 at hF
        refine lv_istore_n (lv' := [(2, .int s0), (0, .ref (g.1 108)), (1, .int v1), (3, .int a3)]) hx hb dX10_isDrought_58 rfl hl (Nat.le_of_ble_eq_true rfl) rfl (fun ls hl => ?_)
        refine lv_iinc (lv' := [(3, .int (a3 + (1 : Int32))), (2, .int s0), (0, .ref (g.1 108)), (1, .int v1)]) (v := (a3 + (1 : Int32))) hx hb dX10_isDrought_59 hl (k := 3) rfl (io_1 _) (Nat.le_of_ble_eq_true rfl) rfl (fun ls hl => ?_)
        refine lv_goto (tgt := 4) hx hb dX10_isDrought_62 rfl ?_
        exact ih _ _ hF _ _ _ (lv_sub hl [2, 3, 1, 0] rfl) hP hS
      have hb53 : ∀ (a3 : Int32), F10_isDrought_b53 kh v1 mm a3 = some q → ∀ (H : Heap) (locs : List Loc) (ls : Array Slot), lv_has ls 4 [(0, .ref (g.1 108)), (1, .int v1), (3, .int a3)] → va_P g.2.2.1 vwCl (wL g mc mm) H → va_S (AA g s.heap.size) s.heap H locs → W p l e { frames := 1, cells := 0, slots := 0, locals := 21 } s m args below meth c H locs 0 0 (MQ below (QI g s.heap.size q (mc, mm)) args s 0 0 (AA g s.heap.size)) (F0 m 53 ls []) := by
        intro a3 hF H locs ls hl hP hS
        unfold F10_isDrought_b53 at hF
        refine lv_iconst (v := (1 : Int32)) hx hb dX10_isDrought_53 ic_1 ?_
        refine lv_goto (tgt := 58) hx hb dX10_isDrought_54 rfl ?_
        exact hb58 _ _ hF _ _ _ (lv_sub hl [0, 1, 2] rfl) hP hS
      have hb57 : ∀ (a3 : Int32), F10_isDrought_b57 kh v1 mm a3 = some q → ∀ (H : Heap) (locs : List Loc) (ls : Array Slot), lv_has ls 4 [(0, .ref (g.1 108)), (1, .int v1), (3, .int a3)] → va_P g.2.2.1 vwCl (wL g mc mm) H → va_S (AA g s.heap.size) s.heap H locs → W p l e { frames := 1, cells := 0, slots := 0, locals := 21 } s m args below meth c H locs 0 0 (MQ below (QI g s.heap.size q (mc, mm)) args s 0 0 (AA g s.heap.size)) (F0 m 57 ls []) := by
        intro a3 hF H locs ls hl hP hS
        unfold F10_isDrought_b57 at hF
        refine lv_iconst (v := (0 : Int32)) hx hb dX10_isDrought_57 ic_0 ?_
        exact hb58 _ _ hF _ _ _ (lv_sub hl [0, 1, 2] rfl) hP hS
      intro a2 a3 hF H locs ls hl hP hS
      have hF : F10_isDrought_p4 (F10_isDrought_h4 v1 mm n) v1 mm a2 a3 = some q := hF
      rw [hkh] at hF
      unfold F10_isDrought_p4 at hF
      refine lv_iload_n hx hb dX10_isDrought_4 rfl (lv_at hl 3 rfl) ?_
      refine lv_aload_n hx hb dX10_isDrought_5 rfl (lv_at hl 0 rfl) ?_
      refine gf10_11 Z hP wd_18_4 dX10_isDrought_6 ?_
      refine lv_icmp_ge (tgt := 65) hx hb dX10_isDrought_9 rfl (fun hc => ?_) (fun hc => ?_)
      · have hF := (if_pos hc).symm.trans hF
        refine lv_iload_n hx hb dX10_isDrought_65 rfl (lv_at hl 2 rfl) ?_
        obtain ⟨hbz, hF⟩ := bz_ok hF
        exact ret_Z Z hr hlk hP hS hbz hF dX10_isDrought_66
      · have hF := (if_neg hc).symm.trans hF
        refine lv_iload_n hx hb dX10_isDrought_12 rfl (lv_at hl 2 rfl) ?_
        refine lv_if_ne (tgt := 53) hx hb dX10_isDrought_13 rfl (fun hc => ?_) (fun hc => ?_)
        · have hF := (if_neg hc).symm.trans hF
          exact hb53 _ hF _ _ _ (lv_sub hl [0, 1, 3] rfl) hP hS
        · have hF := (if_pos hc).symm.trans hF
          refine lv_aload_n hx hb dX10_isDrought_16 rfl (lv_at hl 0 rfl) ?_
          refine gf10_13 Z hP wd_23_1 dX10_isDrought_17 ?_
          refine lv_iload_n hx hb dX10_isDrought_20 rfl (lv_at hl 3 rfl) ?_
          obtain ⟨q4, hq4, hF⟩ := bd_ok hF
          refine xX10_isIn Z hP hS hq4 wd_23_2 hl.1 (Nat.le_of_ble_eq_true rfl) ⟨Nat.le_of_ble_eq_true rfl, Nat.le_of_ble_eq_true rfl⟩ dX10_isDrought_21 (fun H locs hP hS => ?_)
          refine lv_if_ne (tgt := 57) hx hb dX10_isDrought_24 rfl (fun hc => ?_) (fun hc => ?_)
          · have hF := (if_neg hc).symm.trans hF
            exact hb57 _ hF _ _ _ (lv_sub hl [0, 1, 3] rfl) hP hS
          · have hF := (if_pos hc).symm.trans hF
            refine lv_aload_n hx hb dX10_isDrought_27 rfl (lv_at hl 0 rfl) ?_
            refine gf10_12 Z hP wd_6_12 dX10_isDrought_28 ?_
            refine lv_iconst (v := (3 : Int32)) hx hb dX10_isDrought_31 ic_3 ?_
            refine lv_iload_n hx hb dX10_isDrought_32 rfl (lv_at hl 3 rfl) ?_
            refine lv_imul hx hb dX10_isDrought_33 ?_
            obtain ⟨hi5, hF⟩ := ck_ok hF
            refine rM_ld Z hP 24 9 (by decide +kernel) hi5 dX10_isDrought_34 ?_
            refine lv_iconst (v := (2 : Int32)) hx hb dX10_isDrought_35 ic_2 ?_
            refine lv_icmp_ne (tgt := 57) hx hb dX10_isDrought_36 rfl (fun hc => ?_) (fun hc => ?_)
            · have hF := (if_neg hc).symm.trans hF
              exact hb57 _ hF _ _ _ (lv_sub hl [0, 1, 3] rfl) hP hS
            · have hF := (if_pos hc).symm.trans hF
              refine lv_aload_n hx hb dX10_isDrought_39 rfl (lv_at hl 0 rfl) ?_
              refine gf10_12 Z hP wd_6_12 dX10_isDrought_40 ?_
              refine lv_iconst (v := (3 : Int32)) hx hb dX10_isDrought_43 ic_3 ?_
              refine lv_iload_n hx hb dX10_isDrought_44 rfl (lv_at hl 3 rfl) ?_
              refine lv_imul hx hb dX10_isDrought_45 ?_
              refine lv_iconst (v := (1 : Int32)) hx hb dX10_isDrought_46 ic_1 ?_
              refine lv_iadd hx hb dX10_isDrought_47 ?_
              obtain ⟨hi6, hF⟩ := ck_ok hF
              refine rM_ld Z hP 24 9 (by decide +kernel) hi6 dX10_isDrought_48 ?_
              refine lv_iload_n hx hb dX10_isDrought_49 rfl (lv_at hl 1 rfl) ?_
              refine lv_icmp_ne (tgt := 57) hx hb dX10_isDrought_50 rfl (fun hc => ?_) (fun hc => ?_)
              · have hF := (if_neg hc).symm.trans hF
                exact hb57 _ hF _ _ _ (lv_sub hl [0, 1, 3] rfl) hP hS
              · have hF := (if_pos hc).symm.trans hF
                exact hb53 _ hF _ _ _ (lv_sub hl [0, 1, 3] rfl) hP hS
  refine lv_iconst (v := (0 : Int32)) hx hb dX10_isDrought_0 ic_0 ?_
  refine lv_istore_n (lv' := [(2, .int (0 : Int32)), (0, .ref (g.1 108)), (1, .int v1)]) hx hb dX10_isDrought_1 rfl hl (Nat.le_of_ble_eq_true rfl) rfl (fun ls hl => ?_)
  refine lv_iconst (v := (0 : Int32)) hx hb dX10_isDrought_2 ic_0 ?_
  refine lv_istore_n (lv' := [(3, .int (0 : Int32)), (2, .int (0 : Int32)), (0, .ref (g.1 108)), (1, .int v1)]) hx hb dX10_isDrought_3 rfl hl (Nat.le_of_ble_eq_true rfl) rfl (fun ls hl => ?_)
  exact (hL4 FU) _ _ hF _ _ _ (lv_sub hl [2, 3, 1, 0] rfl) hP hS
theorem xX10_isDrought {p : Program} {l : Launch} {e : Env} {R : Room} {s : State} {m : MethodId} {args : Array Value} {below : List Frame} {meth : Method} {c : Code} {H : Heap} {locs : List Loc} {Q : State → Prop} {cc : ByteArray} {nL : Nat} {own : String} {g : GG} {pc index : Nat} {ls : Array Slot} {rest : List Value} {mc mm : Mem} (Z : ZZ p s m args c cc nL own g) (hP : va_P g.2.2.1 vwCl (wL g mc mm) H) (hS : va_S (AA g s.heap.size) s.heap H locs) {v1 : Int32} {q : Int32} (hq : F10_isDrought v1 mm = some q) (hlk : Cond.methodLink own index yX10_isDrought ∈ wsL_law) (hsz : ls.size = nL) (hro : (rest.map fun v => v.category).sum ≤ 8) (hR : 1 + 1 ≤ R.frames ∧ 8 + (4 + 11) + 21 ≤ R.locals) (hdg : decode cc pc = .ok (.invokevirtual index, 3)) (kk : ∀ (H : Heap) (locs : List Loc), va_P g.2.2.1 vwCl (wL g mc mm) H → va_S (AA g s.heap.size) s.heap H locs → W p l e R s m args below meth c H locs 0 0 Q (F0 m (pc + 3) ls (.int q :: rest))) : W p l e R s m args below meth c H locs 0 0 Q (F0 m pc ls (.int v1 :: .ref (g.1 108) :: rest)) :=
  x_VI Z hP hS (kX10_isDrought l g v1 mc mm q hq) (mO) (ci := 10) (by decide) rfl rfl mf_X10_isDrought mv_X10_isDrought hlk rfl rfl hsz hro hR hdg kk
theorem dX10_loses_0 : decode cX10_loses 0 = .ok (.aload_n 0, 1) := by decide +kernel
theorem dX10_loses_1 : decode cX10_loses 1 = .ok (.getfield 37, 3) := by decide +kernel
theorem dX10_loses_4 : decode cX10_loses 4 = .ok (.iload_n 1, 1) := by decide +kernel
theorem dX10_loses_5 : decode cX10_loses 5 = .ok (.iconst (-1), 1) := by decide +kernel
theorem dX10_loses_6 : decode cX10_loses 6 = .ok (.iastore, 1) := by decide +kernel
theorem dX10_loses_7 : decode cX10_loses 7 = .ok (.aload_n 0, 1) := by decide +kernel
theorem dX10_loses_8 : decode cX10_loses 8 = .ok (.getfield 49, 3) := by decide +kernel
theorem dX10_loses_11 : decode cX10_loses 11 = .ok (.iload_n 1, 1) := by decide +kernel
theorem dX10_loses_12 : decode cX10_loses 12 = .ok (.iconst 0, 1) := by decide +kernel
theorem dX10_loses_13 : decode cX10_loses 13 = .ok (.iastore, 1) := by decide +kernel
theorem dX10_loses_14 : decode cX10_loses 14 = .ok (.aload_n 0, 1) := by decide +kernel
theorem dX10_loses_15 : decode cX10_loses 15 = .ok (.getfield 52, 3) := by decide +kernel
theorem dX10_loses_18 : decode cX10_loses 18 = .ok (.iload_n 1, 1) := by decide +kernel
theorem dX10_loses_19 : decode cX10_loses 19 = .ok (.iconst 1, 1) := by decide +kernel
theorem dX10_loses_20 : decode cX10_loses 20 = .ok (.bastore, 1) := by decide +kernel
theorem dX10_loses_21 : decode cX10_loses 21 = .ok (.return_, 1) := by decide +kernel
noncomputable def F10_loses (v1 : Int32) (mm : Mem) : Option (Mem) :=
  (ck v1 8 (ck v1 8 (ck v1 8 (some (mset (mset (mset mm 10 v1.toNatClampNeg (-1 : Int32)) 14 v1.toNatClampNeg (0 : Int32)) 15 v1.toNatClampNeg (1 : Int32))))))
set_option maxHeartbeats 4000000 in
set_option maxRecDepth 100000 in
theorem kX10_loses (l : Launch) (g : GG) (v1 : Int32) (mc mm : Mem) (q : Mem) (hF : F10_loses v1 mm = some q) : KV l yX10_loses cX10_loses 2 0 0 g [.ref (g.1 108), .int v1] mc mm (mc, q) := by
  intro sz
  refine x_start (Qc := fun z => QV g z (mc, q)) (by decide +kernel) (Nat.le_of_ble_eq_true rfl) ?_ sz
  intro p e s m args below meth c ls Z hr hlk hP hl
  have hx := Z.1.1
  have hb := Z.1.2.1
  have hown := Z.1.2.2.2.1
  have hts := Z.1.2.2.2.2
  have hS : va_S (AA g s.heap.size) s.heap s.heap [] := va_S.rf
  have hl : lv_has ls 2 [(0, .ref (g.1 108)), (1, .int v1)] := hl
  unfold F10_loses at hF
  refine lv_aload_n hx hb dX10_loses_0 rfl (lv_at hl 0 rfl) ?_
  refine gf10_16 Z hP wd_6_13 dX10_loses_1 ?_
  refine lv_iload_n hx hb dX10_loses_4 rfl (lv_at hl 1 rfl) ?_
  refine lv_iconst (v := (-1 : Int32)) hx hb dX10_loses_5 ic_m1 ?_
  obtain ⟨hi4, hF⟩ := ck_ok hF
  refine rM_st Z hP hS 8 10 (by decide +kernel) hi4 dX10_loses_6 (fun H locs hP hS => ?_)
  refine lv_aload_n hx hb dX10_loses_7 rfl (lv_at hl 0 rfl) ?_
  refine gf10_20 Z hP wd_6_17 dX10_loses_8 ?_
  refine lv_iload_n hx hb dX10_loses_11 rfl (lv_at hl 1 rfl) ?_
  refine lv_iconst (v := (0 : Int32)) hx hb dX10_loses_12 ic_0 ?_
  obtain ⟨hi5, hF⟩ := ck_ok hF
  refine rM_st Z hP hS 8 14 (by decide +kernel) hi5 dX10_loses_13 (fun H locs hP hS => ?_)
  refine lv_aload_n hx hb dX10_loses_14 rfl (lv_at hl 0 rfl) ?_
  refine gf10_21 Z hP wd_6_18 dX10_loses_15 ?_
  refine lv_iload_n hx hb dX10_loses_18 rfl (lv_at hl 1 rfl) ?_
  refine lv_iconst (v := (1 : Int32)) hx hb dX10_loses_19 ic_1 ?_
  obtain ⟨hi6, hF⟩ := ck_ok hF
  refine rMz_st Z hP hS 8 15 (by decide +kernel) (Or.inr rfl) hi6 dX10_loses_20 (fun H locs hP hS => ?_)
  exact ret_VWM Z hr hlk hP hS hF dX10_loses_21
theorem xX10_loses {p : Program} {l : Launch} {e : Env} {R : Room} {s : State} {m : MethodId} {args : Array Value} {below : List Frame} {meth : Method} {c : Code} {H : Heap} {locs : List Loc} {Q : State → Prop} {cc : ByteArray} {nL : Nat} {own : String} {g : GG} {pc index : Nat} {ls : Array Slot} {rest : List Value} {mc mm : Mem} (Z : ZZ p s m args c cc nL own g) (hP : va_P g.2.2.1 vwCl (wL g mc mm) H) (hS : va_S (AA g s.heap.size) s.heap H locs) {v1 : Int32} {q : Mem} (hq : F10_loses v1 mm = some q) (hlk : Cond.methodLink own index yX10_loses ∈ wsL_law) (hsz : ls.size = nL) (hro : (rest.map fun v => v.category).sum ≤ 8) (hR : 0 + 1 ≤ R.frames ∧ 8 + (2 + 11) + 0 ≤ R.locals) (hdg : decode cc pc = .ok (.invokevirtual index, 3)) (kk : ∀ (H : Heap) (locs : List Loc), va_P g.2.2.1 vwCl (wL g mc q) H → va_S (AA g s.heap.size) s.heap H locs → W p l e R s m args below meth c H locs 0 0 Q (F0 m (pc + 3) ls (rest))) : W p l e R s m args below meth c H locs 0 0 Q (F0 m pc ls (.int v1 :: .ref (g.1 108) :: rest)) :=
  x_VV Z hP hS (kX10_loses l g v1 mc mm q hq) (mO) (ci := 10) (by decide) rfl rfl mf_X10_loses mv_X10_loses hlk rfl rfl hsz hro hR hdg kk

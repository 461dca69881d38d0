theorem dX10_finds_0 : decode cX10_finds 0 = .ok (.aload_n 0, 1) := by decide +kernel
theorem dX10_finds_1 : decode cX10_finds 1 = .ok (.iload_n 1, 1) := by decide +kernel
theorem dX10_finds_2 : decode cX10_finds 2 = .ok (.putfield 87, 3) := by decide +kernel
theorem dX10_finds_5 : decode cX10_finds 5 = .ok (.bipush (-10), 2) := by decide +kernel
theorem dX10_finds_7 : decode cX10_finds 7 = .ok (.iload_n 1, 1) := by decide +kernel
theorem dX10_finds_8 : decode cX10_finds 8 = .ok (.isub, 1) := by decide +kernel
theorem dX10_finds_9 : decode cX10_finds 9 = .ok (.ireturn, 1) := by decide +kernel
noncomputable def F10_finds (v1 : Int32) (mm : Mem) : Option (Int32 × Mem) :=
  some (((-10 : Int32) - v1), (mset mm 0 4 v1))
set_option maxHeartbeats 4000000 in
set_option maxRecDepth 100000 in
theorem kX10_finds (l : Launch) (g : GG) (v1 : Int32) (mc mm : Mem) (q : Int32 × Mem) (hF : F10_finds v1 mm = some q) : KI l yX10_finds cX10_finds 2 .int 0 0 g [.ref (g.1 108), .int v1] mc mm q.1 (mc, q.2) := by
  intro sz
  refine x_start (Qc := fun z => QI g z q.1 (mc, q.2)) (by decide +kernel) (Nat.le_of_ble_eq_true rfl) ?_ sz
  intro p e s m args below meth c ls Z hr hlk hP hl
  have hx := Z.1.1
  have hb := Z.1.2.1
  have hown := Z.1.2.2.2.1
  have hts := Z.1.2.2.2.2
  have hS : va_S (AA g s.heap.size) s.heap s.heap [] := va_S.rf
  have hl : lv_has ls 2 [(0, .ref (g.1 108)), (1, .int v1)] := hl
  unfold F10_finds at hF
  refine lv_aload_n hx hb dX10_finds_0 rfl (lv_at hl 0 rfl) ?_
  refine lv_iload_n hx hb dX10_finds_1 rfl (lv_at hl 1 rfl) ?_
  refine pf10_4 Z hP hS wd_20_4 dX10_finds_2 (fun H locs hP hS => ?_)
  refine lv_bipush (v := (-10 : Int32)) hx hb dX10_finds_5 bp_m10 ?_
  refine lv_iload_n hx hb dX10_finds_7 rfl (lv_at hl 1 rfl) ?_
  refine lv_isub hx hb dX10_finds_8 ?_
  exact ret_IWM Z hr hlk hP hS hF dX10_finds_9
theorem xX10_finds {p : Program} {l : Launch} {e : Env} {R : Room} {s : State} {m : MethodId} {args : Array Value} {below : List Frame} {meth : Method} {c : Code} {H : Heap} {locs : List Loc} {Q : State → Prop} {cc : ByteArray} {nL : Nat} {own : String} {g : GG} {pc index : Nat} {ls : Array Slot} {rest : List Value} {mc mm : Mem} (Z : ZZ p s m args c cc nL own g) (hP : va_P g.2.2.1 vwCl (wL g mc mm) H) (hS : va_S (AA g s.heap.size) s.heap H locs) {v1 : Int32} {q : Int32 × Mem} (hq : F10_finds v1 mm = some q) (hlk : Cond.methodLink own index yX10_finds ∈ wsL_law) (hsz : ls.size = nL) (hro : (rest.map fun v => v.category).sum ≤ 8) (hR : 0 + 1 ≤ R.frames ∧ 8 + (2 + 11) + 0 ≤ R.locals) (hdg : decode cc pc = .ok (.invokevirtual index, 3)) (kk : ∀ (H : Heap) (locs : List Loc), va_P g.2.2.1 vwCl (wL g mc q.2) H → va_S (AA g s.heap.size) s.heap H locs → W p l e R s m args below meth c H locs 0 0 Q (F0 m (pc + 3) ls (.int q.1 :: rest))) : W p l e R s m args below meth c H locs 0 0 Q (F0 m pc ls (.int v1 :: .ref (g.1 108) :: rest)) :=
  x_VI Z hP hS (kX10_finds l g v1 mc mm q hq) (mO) (ci := 10) (by decide) rfl rfl mf_X10_finds mv_X10_finds hlk rfl rfl hsz hro hR hdg kk
theorem dX10_isSheet_0 : decode cX10_isSheet 0 = .ok (.iload_n 0, 1) := by decide +kernel
theorem dX10_isSheet_1 : decode cX10_isSheet 1 = .ok (.i2l, 1) := by decide +kernel
theorem dX10_isSheet_2 : decode cX10_isSheet 2 = .ok (.lconst 0, 1) := by decide +kernel
theorem dX10_isSheet_3 : decode cX10_isSheet 3 = .ok (.ldc2_w 90, 3) := by decide +kernel
theorem dX10_isSheet_6 : decode cX10_isSheet 6 = .ok (.invokestatic 83, 3) := by decide +kernel
theorem dX10_isSheet_9 : decode cX10_isSheet 9 = .ok (.ireturn, 1) := by decide +kernel
noncomputable def F10_isSheet (v0 : Int32) : Option (Int32) :=
  ((F10_in v0.toInt64 (0 : Int64) (3 : Int64)).bind (fun q2 => (bz q2 (some q2))))
set_option maxHeartbeats 4000000 in
set_option maxRecDepth 100000 in
theorem kX10_isSheet (l : Launch) (g : GG) (v0 : Int32) (mc mm : Mem) (q : Int32) (hF : F10_isSheet v0 = some q) : KI l yX10_isSheet cX10_isSheet 1 .boolean 1 25 g [.int v0] mc mm q (mc, mm) := by
  intro sz
  refine x_start (Qc := fun z => QI g z q (mc, mm)) (by decide +kernel) (Nat.le_of_ble_eq_true rfl) ?_ sz
  intro p e s m args below meth c ls Z hr hlk hP hl
  have hx := Z.1.1
  have hb := Z.1.2.1
  have hown := Z.1.2.2.2.1
  have hts := Z.1.2.2.2.2
  have hS : va_S (AA g s.heap.size) s.heap s.heap [] := va_S.rf
  have hl : lv_has ls 1 [(0, .int v0)] := hl
  unfold F10_isSheet at hF
  refine lv_iload_n hx hb dX10_isSheet_0 rfl (lv_at hl 0 rfl) ?_
  refine lv_i2l (v := v0.toInt64) hx hb dX10_isSheet_1 rfl ?_
  refine lv_lconst (v := (0 : Int64)) hx hb dX10_isSheet_2 lc_0 ?_
  refine lv_ldc2 (v := (3 : Int64)) hx hb hown (hts _ wd_15_21) dX10_isSheet_3 ?_
  obtain ⟨q2, hq2, hF⟩ := bd_ok hF
  refine xX10_in Z hP hS hq2 wd_13_8 hl.1 (Nat.le_of_ble_eq_true rfl) ⟨Nat.le_of_ble_eq_true rfl, Nat.le_of_ble_eq_true rfl⟩ dX10_isSheet_6 (fun H locs hP hS => ?_)
  obtain ⟨hbz, hF⟩ := bz_ok hF
  exact ret_Z Z hr hlk hP hS hbz hF dX10_isSheet_9
theorem xX10_isSheet {p : Program} {l : Launch} {e : Env} {R : Room} {s : State} {m : MethodId} {args : Array Value} {below : List Frame} {meth : Method} {c : Code} {H : Heap} {locs : List Loc} {Q : State → Prop} {cc : ByteArray} {nL : Nat} {own : String} {g : GG} {pc index : Nat} {ls : Array Slot} {rest : List Value} {mc mm : Mem} (Z : ZZ p s m args c cc nL own g) (hP : va_P g.2.2.1 vwCl (wL g mc mm) H) (hS : va_S (AA g s.heap.size) s.heap H locs) {v0 : Int32} {q : Int32} (hq : F10_isSheet v0 = some q) (hlk : Cond.methodLink own index yX10_isSheet ∈ wsL_law) (hsz : ls.size = nL) (hro : (rest.map fun v => v.category).sum ≤ 8) (hR : 1 + 1 ≤ R.frames ∧ 8 + (1 + 11) + 25 ≤ R.locals) (hdg : decode cc pc = .ok (.invokestatic index, 3)) (kk : ∀ (H : Heap) (locs : List Loc), va_P g.2.2.1 vwCl (wL g mc mm) H → va_S (AA g s.heap.size) s.heap H locs → W p l e R s m args below meth c H locs 0 0 Q (F0 m (pc + 3) ls (.int q :: rest))) : W p l e R s m args below meth c H locs 0 0 Q (F0 m pc ls (.int v0 :: rest)) :=
  x_SI Z hP hS (kX10_isSheet l g v0 mc mm q hq) mf_X10_isSheet wd_19_22 hlk rfl rfl hsz hro hR hdg kk
theorem dX10_sheet_0 : decode cX10_sheet 0 = .ok (.iload_n 1, 1) := by decide +kernel
theorem dX10_sheet_1 : decode cX10_sheet 1 = .ok (.invokestatic 92, 3) := by decide +kernel
theorem dX10_sheet_4 : decode cX10_sheet 4 = .ok (.ifCond .eq 21, 3) := by decide +kernel
theorem dX10_sheet_7 : decode cX10_sheet 7 = .ok (.iload_n 2, 1) := by decide +kernel
theorem dX10_sheet_8 : decode cX10_sheet 8 = .ok (.i2l, 1) := by decide +kernel
theorem dX10_sheet_9 : decode cX10_sheet 9 = .ok (.lconst 0, 1) := by decide +kernel
theorem dX10_sheet_10 : decode cX10_sheet 10 = .ok (.ldc2_w 96, 3) := by decide +kernel
theorem dX10_sheet_13 : decode cX10_sheet 13 = .ok (.invokestatic 83, 3) := by decide +kernel
theorem dX10_sheet_16 : decode cX10_sheet 16 = .ok (.ifCond .eq 9, 3) := by decide +kernel
theorem dX10_sheet_19 : decode cX10_sheet 19 = .ok (.iload_n 3, 1) := by decide +kernel
theorem dX10_sheet_20 : decode cX10_sheet 20 = .ok (.bipush 60, 2) := by decide +kernel
theorem dX10_sheet_22 : decode cX10_sheet 22 = .ok (.if_icmp .le 6, 3) := by decide +kernel
theorem dX10_sheet_25 : decode cX10_sheet 25 = .ok (.bipush (-2), 2) := by decide +kernel
theorem dX10_sheet_27 : decode cX10_sheet 27 = .ok (.ireturn, 1) := by decide +kernel
theorem dX10_sheet_28 : decode cX10_sheet 28 = .ok (.iload_n 3, 1) := by decide +kernel
theorem dX10_sheet_29 : decode cX10_sheet 29 = .ok (.ifCond .ge 9, 3) := by decide +kernel
theorem dX10_sheet_32 : decode cX10_sheet 32 = .ok (.aload_n 0, 1) := by decide +kernel
theorem dX10_sheet_33 : decode cX10_sheet 33 = .ok (.iconst 5, 1) := by decide +kernel
theorem dX10_sheet_34 : decode cX10_sheet 34 = .ok (.invokevirtual 98, 3) := by decide +kernel
theorem dX10_sheet_37 : decode cX10_sheet 37 = .ok (.ireturn, 1) := by decide +kernel
theorem dX10_sheet_38 : decode cX10_sheet 38 = .ok (.aload_n 0, 1) := by decide +kernel
theorem dX10_sheet_39 : decode cX10_sheet 39 = .ok (.getfield 7, 3) := by decide +kernel
theorem dX10_sheet_42 : decode cX10_sheet 42 = .ok (.iload_n 1, 1) := by decide +kernel
theorem dX10_sheet_43 : decode cX10_sheet 43 = .ok (.iload_n 2, 1) := by decide +kernel
theorem dX10_sheet_44 : decode cX10_sheet 44 = .ok (.iastore, 1) := by decide +kernel
theorem dX10_sheet_45 : decode cX10_sheet 45 = .ok (.aload_n 0, 1) := by decide +kernel
theorem dX10_sheet_46 : decode cX10_sheet 46 = .ok (.getfield 13, 3) := by decide +kernel
theorem dX10_sheet_49 : decode cX10_sheet 49 = .ok (.iload_n 1, 1) := by decide +kernel
theorem dX10_sheet_50 : decode cX10_sheet 50 = .ok (.iload_n 3, 1) := by decide +kernel
theorem dX10_sheet_51 : decode cX10_sheet 51 = .ok (.iastore, 1) := by decide +kernel
theorem dX10_sheet_52 : decode cX10_sheet 52 = .ok (.iconst 0, 1) := by decide +kernel
theorem dX10_sheet_53 : decode cX10_sheet 53 = .ok (.istore 4, 2) := by decide +kernel
theorem dX10_sheet_55 : decode cX10_sheet 55 = .ok (.iload 4, 2) := by decide +kernel
theorem dX10_sheet_57 : decode cX10_sheet 57 = .ok (.iload_n 3, 1) := by decide +kernel
theorem dX10_sheet_58 : decode cX10_sheet 58 = .ok (.if_icmp .ge 22, 3) := by decide +kernel
theorem dX10_sheet_61 : decode cX10_sheet 61 = .ok (.aload_n 0, 1) := by decide +kernel
theorem dX10_sheet_62 : decode cX10_sheet 62 = .ok (.getfield 16, 3) := by decide +kernel
theorem dX10_sheet_65 : decode cX10_sheet 65 = .ok (.bipush 60, 2) := by decide +kernel
theorem dX10_sheet_67 : decode cX10_sheet 67 = .ok (.iload_n 1, 1) := by decide +kernel
theorem dX10_sheet_68 : decode cX10_sheet 68 = .ok (.imul, 1) := by decide +kernel
theorem dX10_sheet_69 : decode cX10_sheet 69 = .ok (.iload 4, 2) := by decide +kernel
theorem dX10_sheet_71 : decode cX10_sheet 71 = .ok (.iadd, 1) := by decide +kernel
theorem dX10_sheet_72 : decode cX10_sheet 72 = .ok (.iconst 0, 1) := by decide +kernel
theorem dX10_sheet_73 : decode cX10_sheet 73 = .ok (.iastore, 1) := by decide +kernel
theorem dX10_sheet_74 : decode cX10_sheet 74 = .ok (.iinc 4 1, 3) := by decide +kernel
theorem dX10_sheet_77 : decode cX10_sheet 77 = .ok (.goto (-22), 3) := by decide +kernel
theorem dX10_sheet_80 : decode cX10_sheet 80 = .ok (.iload_n 3, 1) := by decide +kernel
theorem dX10_sheet_81 : decode cX10_sheet 81 = .ok (.ireturn, 1) := by decide +kernel
noncomputable def F10_sheet_p55 (kh : Int32 → Mem → Option (Int32 × Mem)) (v1 : Int32) (v2 : Int32) (v3 : Int32) (a4 : Int32) (M : Mem) : Option (Int32 × Mem) :=
  (if v3 ≤ a4 then some (v3, M) else (ck (((60 : Int32) * v1) + a4) 240 (kh (a4 + (1 : Int32)) (mset M 3 (((60 : Int32) * v1) + a4).toNatClampNeg (0 : Int32)))))
noncomputable def F10_sheet_h55 (v1 : Int32) (v2 : Int32) (v3 : Int32) : Nat → Int32 → Mem → Option (Int32 × Mem)
  | 0, _, _ => none
  | n + 1, a4, M => F10_sheet_p55 (F10_sheet_h55 v1 v2 v3 n) v1 v2 v3 a4 M
noncomputable def F10_sheet (v1 : Int32) (v2 : Int32) (v3 : Int32) (mm : Mem) : Option (Int32 × Mem) :=
  ((F10_isSheet v1).bind (fun q8 => (if q8 = (0 : Int32) then some ((-2 : Int32), mm) else ((F10_in v2.toInt64 (0 : Int64) (2 : Int64)).bind (fun q9 => (if q9 = (0 : Int32) then some ((-2 : Int32), mm) else (if v3 ≤ (60 : Int32) then (if (0 : Int32) ≤ v3 then (ck v1 4 (ck v1 4 ((F10_sheet_h55 v1 v2 v3 FU) (0 : Int32) (mset (mset mm 1 v1.toNatClampNeg v2) 2 v1.toNatClampNeg v3)))) else ((F10_finds (5 : Int32) mm).bind (fun q12 => (some (q12.1, q12.2))))) else some ((-2 : Int32), mm))))))))
set_option maxHeartbeats 4000000 in
set_option maxRecDepth 100000 in
theorem kX10_sheet (l : Launch) (g : GG) (v1 : Int32) (v2 : Int32) (v3 : Int32) (mc mm : Mem) (q : Int32 × Mem) (hF : F10_sheet v1 v2 v3 mm = some q) : KI l yX10_sheet cX10_sheet 5 .int 2 45 g [.ref (g.1 108), .int v1, .int v2, .int v3] mc mm q.1 (mc, q.2) := by
  intro sz
  refine x_start (Qc := fun z => QI g z q.1 (mc, q.2)) (by decide +kernel) (Nat.le_of_ble_eq_true rfl) ?_ sz
  intro p e s m args below meth c ls Z hr hlk hP hl
  have hx := Z.1.1
  have hb := Z.1.2.1
  have hown := Z.1.2.2.2.1
  have hts := Z.1.2.2.2.2
  have hS : va_S (AA g s.heap.size) s.heap s.heap [] := va_S.rf
  have hl : lv_has ls 5 [(0, .ref (g.1 108)), (1, .int v1), (2, .int v2), (3, .int v3)] := hl
  unfold F10_sheet at hF
  have hL55 : ∀ n : Nat, ∀ (a4 : Int32) (M : Mem), F10_sheet_h55 v1 v2 v3 n a4 M = some q → ∀ (H : Heap) (locs : List Loc) (ls : Array Slot), lv_has ls 5 [(0, .ref (g.1 108)), (1, .int v1), (3, .int v3), (4, .int a4)] → va_P g.2.2.1 vwCl (wL g mc M) H → va_S (AA g s.heap.size) s.heap H locs → W p l e { frames := 2, cells := 0, slots := 0, locals := 45 } s m args below meth c H locs 0 0 (MQ below (QI g s.heap.size q.1 (mc, q.2)) args s 0 0 (AA g s.heap.size)) (F0 m 55 ls []) := by
    intro n
    induction n with
    | zero => intro a4 M hF H locs ls hl hP hS; exact absurd hF (fun z => nomatch (show (none : Option _) = some q from z))
    | succ n ih =>
      generalize hkh : F10_sheet_h55 v1 v2 v3 n = kh at ih
      intro a4 M hF H locs ls hl hP hS
      have hF : F10_sheet_p55 (F10_sheet_h55 v1 v2 v3 n) v1 v2 v3 a4 M = some q := hF
      rw [hkh] at hF
      unfold F10_sheet_p55 at hF
      refine lv_iload hx hb dX10_sheet_55 (lv_at hl 3 rfl) ?_
      refine lv_iload_n hx hb dX10_sheet_57 rfl (lv_at hl 2 rfl) ?_
      refine lv_icmp_ge (tgt := 80) hx hb dX10_sheet_58 rfl (fun hc => ?_) (fun hc => ?_)
      · have hF := (if_pos hc).symm.trans hF
        refine lv_iload_n hx hb dX10_sheet_80 rfl (lv_at hl 2 rfl) ?_
        exact ret_IWM Z hr hlk hP hS hF dX10_sheet_81
      · have hF := (if_neg hc).symm.trans hF
        refine lv_aload_n hx hb dX10_sheet_61 rfl (lv_at hl 0 rfl) ?_
        refine gf10_2 Z hP wd_6_6 dX10_sheet_62 ?_
        refine lv_bipush (v := (60 : Int32)) hx hb dX10_sheet_65 bp_60 ?_
        refine lv_iload_n hx hb dX10_sheet_67 rfl (lv_at hl 1 rfl) ?_
        refine lv_imul hx hb dX10_sheet_68 ?_
        refine lv_iload hx hb dX10_sheet_69 (lv_at hl 3 rfl) ?_
        refine lv_iadd hx hb dX10_sheet_71 ?_
        refine lv_iconst (v := (0 : Int32)) hx hb dX10_sheet_72 ic_0 ?_
        obtain ⟨hi7, hF⟩ := ck_ok hF
        refine rM_st Z hP hS 240 3 (by decide +kernel) hi7 dX10_sheet_73 (fun H locs hP hS => ?_)
        refine lv_iinc (lv' := [(4, .int (a4 + (1 : Int32))), (0, .ref (g.1 108)), (1, .int v1), (3, .int v3)]) (v := (a4 + (1 : Int32))) hx hb dX10_sheet_74 hl (k := 3) rfl (io_1 _) (Nat.le_of_ble_eq_true rfl) rfl (fun ls hl => ?_)
        refine lv_goto (tgt := 55) hx hb dX10_sheet_77 rfl ?_
        exact ih _ _ hF _ _ _ (lv_sub hl [1, 2, 3, 0] rfl) hP hS
  refine lv_iload_n hx hb dX10_sheet_0 rfl (lv_at hl 1 rfl) ?_
  obtain ⟨q8, hq8, hF⟩ := bd_ok hF
  refine xX10_isSheet Z hP hS hq8 wd_19_21 hl.1 (Nat.le_of_ble_eq_true rfl) ⟨Nat.le_of_ble_eq_true rfl, Nat.le_of_ble_eq_true rfl⟩ dX10_sheet_1 (fun H locs hP hS => ?_)
  refine lv_if_eq (tgt := 25) hx hb dX10_sheet_4 rfl (fun hc => ?_) (fun hc => ?_)
  · have hF := (if_pos hc).symm.trans hF
    refine lv_bipush (v := (-2 : Int32)) hx hb dX10_sheet_25 bp_m2 ?_
    exact ret_IWM Z hr hlk hP hS hF dX10_sheet_27
  · have hF := (if_neg hc).symm.trans hF
    refine lv_iload_n hx hb dX10_sheet_7 rfl (lv_at hl 2 rfl) ?_
    refine lv_i2l (v := v2.toInt64) hx hb dX10_sheet_8 rfl ?_
    refine lv_lconst (v := (0 : Int64)) hx hb dX10_sheet_9 lc_0 ?_
    refine lv_ldc2 (v := (2 : Int64)) hx hb hown (hts _ wd_18_3) dX10_sheet_10 ?_
    obtain ⟨q9, hq9, hF⟩ := bd_ok hF
    refine xX10_in Z hP hS hq9 wd_13_8 hl.1 (Nat.le_of_ble_eq_true rfl) ⟨Nat.le_of_ble_eq_true rfl, Nat.le_of_ble_eq_true rfl⟩ dX10_sheet_13 (fun H locs hP hS => ?_)
    refine lv_if_eq (tgt := 25) hx hb dX10_sheet_16 rfl (fun hc => ?_) (fun hc => ?_)
    · have hF := (if_pos hc).symm.trans hF
      refine lv_bipush (v := (-2 : Int32)) hx hb dX10_sheet_25 bp_m2 ?_
      exact ret_IWM Z hr hlk hP hS hF dX10_sheet_27
    · have hF := (if_neg hc).symm.trans hF
      refine lv_iload_n hx hb dX10_sheet_19 rfl (lv_at hl 3 rfl) ?_
      refine lv_bipush (v := (60 : Int32)) hx hb dX10_sheet_20 bp_60 ?_
      refine lv_icmp_le (tgt := 28) hx hb dX10_sheet_22 rfl (fun hc => ?_) (fun hc => ?_)
      · have hF := (if_pos hc).symm.trans hF
        refine lv_iload_n hx hb dX10_sheet_28 rfl (lv_at hl 3 rfl) ?_
        refine lv_if_ge (tgt := 38) hx hb dX10_sheet_29 rfl (fun hc => ?_) (fun hc => ?_)
        · have hF := (if_pos hc).symm.trans hF
          refine lv_aload_n hx hb dX10_sheet_38 rfl (lv_at hl 0 rfl) ?_
          refine gf10_0 Z hP wd_6_4 dX10_sheet_39 ?_
          refine lv_iload_n hx hb dX10_sheet_42 rfl (lv_at hl 1 rfl) ?_
          refine lv_iload_n hx hb dX10_sheet_43 rfl (lv_at hl 2 rfl) ?_
          obtain ⟨hi10, hF⟩ := ck_ok hF
          refine rM_st Z hP hS 4 1 (by decide +kernel) hi10 dX10_sheet_44 (fun H locs hP hS => ?_)
          refine lv_aload_n hx hb dX10_sheet_45 rfl (lv_at hl 0 rfl) ?_
          refine gf10_1 Z hP wd_6_5 dX10_sheet_46 ?_
          refine lv_iload_n hx hb dX10_sheet_49 rfl (lv_at hl 1 rfl) ?_
          refine lv_iload_n hx hb dX10_sheet_50 rfl (lv_at hl 3 rfl) ?_
          obtain ⟨hi11, hF⟩ := ck_ok hF
          refine rM_st Z hP hS 4 2 (by decide +kernel) hi11 dX10_sheet_51 (fun H locs hP hS => ?_)
          refine lv_iconst (v := (0 : Int32)) hx hb dX10_sheet_52 ic_0 ?_
          refine lv_istore (lv' := [(4, .int (0 : Int32)), (0, .ref (g.1 108)), (1, .int v1), (2, .int v2), (3, .int v3)]) hx hb dX10_sheet_53 hl (Nat.le_of_ble_eq_true rfl) rfl (fun ls hl => ?_)
          exact (hL55 FU) _ _ hF _ _ _ (lv_sub hl [1, 2, 4, 0] rfl) hP hS
        · have hF := (if_neg hc).symm.trans hF
          refine lv_aload_n hx hb dX10_sheet_32 rfl (lv_at hl 0 rfl) ?_
          refine lv_iconst (v := (5 : Int32)) hx hb dX10_sheet_33 ic_5 ?_
          obtain ⟨q12, hq12, hF⟩ := bd_ok hF
          refine xX10_finds Z hP hS hq12 wd_20_0 hl.1 (Nat.le_of_ble_eq_true rfl) ⟨Nat.le_of_ble_eq_true rfl, Nat.le_of_ble_eq_true rfl⟩ dX10_sheet_34 (fun H locs hP hS => ?_)
          exact ret_IWM Z hr hlk hP hS hF dX10_sheet_37
      · have hF := (if_neg hc).symm.trans hF
        refine lv_bipush (v := (-2 : Int32)) hx hb dX10_sheet_25 bp_m2 ?_
        exact ret_IWM Z hr hlk hP hS hF dX10_sheet_27
theorem xX10_sheet {p : Program} {l : Launch} {e : Env} {R : Room} {s : State} {m : MethodId} {args : Array Value} {below : List Frame} {meth : Method} {c : Code} {H : Heap} {locs : List Loc} {Q : State → Prop} {cc : ByteArray} {nL : Nat} {own : String} {g : GG} {pc index : Nat} {ls : Array Slot} {rest : List Value} {mc mm : Mem} (Z : ZZ p s m args c cc nL own g) (hP : va_P g.2.2.1 vwCl (wL g mc mm) H) (hS : va_S (AA g s.heap.size) s.heap H locs) {v1 : Int32} {v2 : Int32} {v3 : Int32} {q : Int32 × Mem} (hq : F10_sheet v1 v2 v3 mm = some q) (hlk : Cond.methodLink own index yX10_sheet ∈ wsL_law) (hsz : ls.size = nL) (hro : (rest.map fun v => v.category).sum ≤ 8) (hR : 2 + 1 ≤ R.frames ∧ 8 + (5 + 11) + 45 ≤ R.locals) (hdg : decode cc pc = .ok (.invokevirtual index, 3)) (kk : ∀ (H : Heap) (locs : List Loc), va_P g.2.2.1 vwCl (wL g mc q.2) H → va_S (AA g s.heap.size) s.heap H locs → W p l e R s m args below meth c H locs 0 0 Q (F0 m (pc + 3) ls (.int q.1 :: rest))) : W p l e R s m args below meth c H locs 0 0 Q (F0 m pc ls (.int v3 :: .int v2 :: .int v1 :: .ref (g.1 108) :: rest)) :=
  x_VI Z hP hS (kX10_sheet l g v1 v2 v3 mc mm q hq) (mO) (ci := 10) (by decide) rfl rfl mf_X10_sheet mv_X10_sheet hlk rfl rfl hsz hro hR hdg kk
theorem dX10_lose_0 : decode cX10_lose 0 = .ok (.iload_n 1, 1) := by decide +kernel
theorem dX10_lose_1 : decode cX10_lose 1 = .ok (.invokestatic 92, 3) := by decide +kernel
theorem dX10_lose_4 : decode cX10_lose 4 = .ok (.ifCond .ne 6, 3) := by decide +kernel
theorem dX10_lose_7 : decode cX10_lose 7 = .ok (.bipush (-2), 2) := by decide +kernel
theorem dX10_lose_9 : decode cX10_lose 9 = .ok (.ireturn, 1) := by decide +kernel
theorem dX10_lose_10 : decode cX10_lose 10 = .ok (.aload_n 0, 1) := by decide +kernel
theorem dX10_lose_11 : decode cX10_lose 11 = .ok (.getfield 7, 3) := by decide +kernel
theorem dX10_lose_14 : decode cX10_lose 14 = .ok (.iload_n 1, 1) := by decide +kernel
theorem dX10_lose_15 : decode cX10_lose 15 = .ok (.iaload, 1) := by decide +kernel
theorem dX10_lose_16 : decode cX10_lose 16 = .ok (.ifCond .ge 9, 3) := by decide +kernel
theorem dX10_lose_19 : decode cX10_lose 19 = .ok (.aload_n 0, 1) := by decide +kernel
theorem dX10_lose_20 : decode cX10_lose 20 = .ok (.iconst 1, 1) := by decide +kernel
theorem dX10_lose_21 : decode cX10_lose 21 = .ok (.invokevirtual 98, 3) := by decide +kernel
theorem dX10_lose_24 : decode cX10_lose 24 = .ok (.ireturn, 1) := by decide +kernel
theorem dX10_lose_25 : decode cX10_lose 25 = .ok (.aload_n 0, 1) := by decide +kernel
theorem dX10_lose_26 : decode cX10_lose 26 = .ok (.getfield 7, 3) := by decide +kernel
theorem dX10_lose_29 : decode cX10_lose 29 = .ok (.iload_n 1, 1) := by decide +kernel
theorem dX10_lose_30 : decode cX10_lose 30 = .ok (.iconst (-1), 1) := by decide +kernel
theorem dX10_lose_31 : decode cX10_lose 31 = .ok (.iastore, 1) := by decide +kernel
theorem dX10_lose_32 : decode cX10_lose 32 = .ok (.aload_n 0, 1) := by decide +kernel
theorem dX10_lose_33 : decode cX10_lose 33 = .ok (.getfield 13, 3) := by decide +kernel
theorem dX10_lose_36 : decode cX10_lose 36 = .ok (.iload_n 1, 1) := by decide +kernel
theorem dX10_lose_37 : decode cX10_lose 37 = .ok (.iaload, 1) := by decide +kernel
theorem dX10_lose_38 : decode cX10_lose 38 = .ok (.ireturn, 1) := by decide +kernel
noncomputable def F10_lose (v1 : Int32) (mm : Mem) : Option (Int32 × Mem) :=
  ((F10_isSheet v1).bind (fun q7 => (if q7 = (0 : Int32) then some ((-2 : Int32), mm) else (ck v1 4 (if (0 : Int32) ≤ (mm 1 v1.toNatClampNeg) then (ck v1 4 (lt (mset mm 1 v1.toNatClampNeg (-1 : Int32)) (fun M10 => (ck v1 4 (some ((M10 2 v1.toNatClampNeg), M10)))))) else ((F10_finds (1 : Int32) mm).bind (fun q12 => (some (q12.1, q12.2)))))))))
set_option maxHeartbeats 4000000 in
set_option maxRecDepth 100000 in
theorem kX10_lose (l : Launch) (g : GG) (v1 : Int32) (mc mm : Mem) (q : Int32 × Mem) (hF : F10_lose v1 mm = some q) : KI l yX10_lose cX10_lose 2 .int 2 45 g [.ref (g.1 108), .int v1] mc mm q.1 (mc, q.2) := by
  intro sz
  refine x_start (Qc := fun z => QI g z q.1 (mc, q.2)) (by decide +kernel) (Nat.le_of_ble_eq_true rfl) ?_ sz
  intro p e s m args below meth c ls Z hr hlk hP hl
  have hx := Z.1.1
  have hb := Z.1.2.1
  have hown := Z.1.2.2.2.1
  have hts := Z.1.2.2.2.2
  have hS : va_S (AA g s.heap.size) s.heap s.heap [] := va_S.rf
  have hl : lv_has ls 2 [(0, .ref (g.1 108)), (1, .int v1)] := hl
  unfold F10_lose at hF
  refine lv_iload_n hx hb dX10_lose_0 rfl (lv_at hl 1 rfl) ?_
  obtain ⟨q7, hq7, hF⟩ := bd_ok hF
  refine xX10_isSheet Z hP hS hq7 wd_19_21 hl.1 (Nat.le_of_ble_eq_true rfl) ⟨Nat.le_of_ble_eq_true rfl, Nat.le_of_ble_eq_true rfl⟩ dX10_lose_1 (fun H locs hP hS => ?_)
  refine lv_if_ne (tgt := 10) hx hb dX10_lose_4 rfl (fun hc => ?_) (fun hc => ?_)
  · have hF := (if_neg hc).symm.trans hF
    refine lv_aload_n hx hb dX10_lose_10 rfl (lv_at hl 0 rfl) ?_
    refine gf10_0 Z hP wd_6_4 dX10_lose_11 ?_
    refine lv_iload_n hx hb dX10_lose_14 rfl (lv_at hl 1 rfl) ?_
    obtain ⟨hi8, hF⟩ := ck_ok hF
    refine rM_ld Z hP 4 1 (by decide +kernel) hi8 dX10_lose_15 ?_
    refine lv_if_ge (tgt := 25) hx hb dX10_lose_16 rfl (fun hc => ?_) (fun hc => ?_)
    · have hF := (if_pos hc).symm.trans hF
      refine lv_aload_n hx hb dX10_lose_25 rfl (lv_at hl 0 rfl) ?_
      refine gf10_0 Z hP wd_6_4 dX10_lose_26 ?_
      refine lv_iload_n hx hb dX10_lose_29 rfl (lv_at hl 1 rfl) ?_
      refine lv_iconst (v := (-1 : Int32)) hx hb dX10_lose_30 ic_m1 ?_
      obtain ⟨hi9, hF⟩ := ck_ok hF
      refine rM_st Z hP hS 4 1 (by decide +kernel) hi9 dX10_lose_31 (fun H locs hP hS => ?_)
      refine lv_aload_n hx hb dX10_lose_32 rfl (lv_at hl 0 rfl) ?_
      refine gf10_1 Z hP wd_6_5 dX10_lose_33 ?_
      refine lv_iload_n hx hb dX10_lose_36 rfl (lv_at hl 1 rfl) ?_
      obtain ⟨M10, eM10, hF⟩ := lt_ok hF
      have hP : va_P g.2.2.1 vwCl (wL g mc M10) H := by rw [eM10]; exact hP
      obtain ⟨hi11, hF⟩ := ck_ok hF
      refine rM_ld Z hP 4 2 (by decide +kernel) hi11 dX10_lose_37 ?_
      exact ret_IWM Z hr hlk hP hS hF dX10_lose_38
    · have hF := (if_neg hc).symm.trans hF
      refine lv_aload_n hx hb dX10_lose_19 rfl (lv_at hl 0 rfl) ?_
      refine lv_iconst (v := (1 : Int32)) hx hb dX10_lose_20 ic_1 ?_
      obtain ⟨q12, hq12, hF⟩ := bd_ok hF
      refine xX10_finds Z hP hS hq12 wd_20_0 hl.1 (Nat.le_of_ble_eq_true rfl) ⟨Nat.le_of_ble_eq_true rfl, Nat.le_of_ble_eq_true rfl⟩ dX10_lose_21 (fun H locs hP hS => ?_)
      exact ret_IWM Z hr hlk hP hS hF dX10_lose_24
  · have hF := (if_pos hc).symm.trans hF
    refine lv_bipush (v := (-2 : Int32)) hx hb dX10_lose_7 bp_m2 ?_
    exact ret_IWM Z hr hlk hP hS hF dX10_lose_9
theorem xX10_lose {p : Program} {l : Launch} {e : Env} {R : Room} {s : State} {m : MethodId} {args : Array Value} {below : List Frame} {meth : Method} {c : Code} {H : Heap} {locs : List Loc} {Q : State → Prop} {cc : ByteArray} {nL : Nat} {own : String} {g : GG} {pc index : Nat} {ls : Array Slot} {rest : List Value} {mc mm : Mem} (Z : ZZ p s m args c cc nL own g) (hP : va_P g.2.2.1 vwCl (wL g mc mm) H) (hS : va_S (AA g s.heap.size) s.heap H locs) {v1 : Int32} {q : Int32 × Mem} (hq : F10_lose v1 mm = some q) (hlk : Cond.methodLink own index yX10_lose ∈ wsL_law) (hsz : ls.size = nL) (hro : (rest.map fun v => v.category).sum ≤ 8) (hR : 2 + 1 ≤ R.frames ∧ 8 + (2 + 11) + 45 ≤ R.locals) (hdg : decode cc pc = .ok (.invokevirtual index, 3)) (kk : ∀ (H : Heap) (locs : List Loc), va_P g.2.2.1 vwCl (wL g mc q.2) H → va_S (AA g s.heap.size) s.heap H locs → W p l e R s m args below meth c H locs 0 0 Q (F0 m (pc + 3) ls (.int q.1 :: rest))) : W p l e R s m args below meth c H locs 0 0 Q (F0 m pc ls (.int v1 :: .ref (g.1 108) :: rest)) :=
  x_VI Z hP hS (kX10_lose l g v1 mc mm q hq) (mO) (ci := 10) (by decide) rfl rfl mf_X10_lose mv_X10_lose hlk rfl rfl hsz hro hR hdg kk
theorem dX10_lacks_0 : decode cX10_lacks 0 = .ok (.aload_n 0, 1) := by decide +kernel
theorem dX10_lacks_1 : decode cX10_lacks 1 = .ok (.getfield 7, 3) := by decide +kernel
theorem dX10_lacks_4 : decode cX10_lacks 4 = .ok (.iload_n 1, 1) := by decide +kernel
theorem dX10_lacks_5 : decode cX10_lacks 5 = .ok (.iaload, 1) := by decide +kernel
theorem dX10_lacks_6 : decode cX10_lacks 6 = .ok (.ifCond .ge 9, 3) := by decide +kernel
theorem dX10_lacks_9 : decode cX10_lacks 9 = .ok (.aload_n 0, 1) := by decide +kernel
theorem dX10_lacks_10 : decode cX10_lacks 10 = .ok (.iconst 1, 1) := by decide +kernel
theorem dX10_lacks_11 : decode cX10_lacks 11 = .ok (.invokevirtual 98, 3) := by decide +kernel
theorem dX10_lacks_14 : decode cX10_lacks 14 = .ok (.ireturn, 1) := by decide +kernel
theorem dX10_lacks_15 : decode cX10_lacks 15 = .ok (.aload_n 0, 1) := by decide +kernel
theorem dX10_lacks_16 : decode cX10_lacks 16 = .ok (.getfield 7, 3) := by decide +kernel
theorem dX10_lacks_19 : decode cX10_lacks 19 = .ok (.iload_n 1, 1) := by decide +kernel
theorem dX10_lacks_20 : decode cX10_lacks 20 = .ok (.iaload, 1) := by decide +kernel
theorem dX10_lacks_21 : decode cX10_lacks 21 = .ok (.iload_n 2, 1) := by decide +kernel
theorem dX10_lacks_22 : decode cX10_lacks 22 = .ok (.if_icmp .eq 9, 3) := by decide +kernel
theorem dX10_lacks_25 : decode cX10_lacks 25 = .ok (.aload_n 0, 1) := by decide +kernel
theorem dX10_lacks_26 : decode cX10_lacks 26 = .ok (.iconst 3, 1) := by decide +kernel
theorem dX10_lacks_27 : decode cX10_lacks 27 = .ok (.invokevirtual 98, 3) := by decide +kernel
theorem dX10_lacks_30 : decode cX10_lacks 30 = .ok (.ireturn, 1) := by decide +kernel
theorem dX10_lacks_31 : decode cX10_lacks 31 = .ok (.iload_n 3, 1) := by decide +kernel
theorem dX10_lacks_32 : decode cX10_lacks 32 = .ok (.i2l, 1) := by decide +kernel
theorem dX10_lacks_33 : decode cX10_lacks 33 = .ok (.lconst 0, 1) := by decide +kernel
theorem dX10_lacks_34 : decode cX10_lacks 34 = .ok (.aload_n 0, 1) := by decide +kernel
theorem dX10_lacks_35 : decode cX10_lacks 35 = .ok (.getfield 13, 3) := by decide +kernel
theorem dX10_lacks_38 : decode cX10_lacks 38 = .ok (.iload_n 1, 1) := by decide +kernel
theorem dX10_lacks_39 : decode cX10_lacks 39 = .ok (.iaload, 1) := by decide +kernel
theorem dX10_lacks_40 : decode cX10_lacks 40 = .ok (.iconst 1, 1) := by decide +kernel
theorem dX10_lacks_41 : decode cX10_lacks 41 = .ok (.isub, 1) := by decide +kernel
theorem dX10_lacks_42 : decode cX10_lacks 42 = .ok (.i2l, 1) := by decide +kernel
theorem dX10_lacks_43 : decode cX10_lacks 43 = .ok (.invokestatic 83, 3) := by decide +kernel
theorem dX10_lacks_46 : decode cX10_lacks 46 = .ok (.ifCond .eq 7, 3) := by decide +kernel
theorem dX10_lacks_49 : decode cX10_lacks 49 = .ok (.iconst 0, 1) := by decide +kernel
theorem dX10_lacks_50 : decode cX10_lacks 50 = .ok (.goto 8, 3) := by decide +kernel
theorem dX10_lacks_53 : decode cX10_lacks 53 = .ok (.aload_n 0, 1) := by decide +kernel
theorem dX10_lacks_54 : decode cX10_lacks 54 = .ok (.iconst 2, 1) := by decide +kernel
theorem dX10_lacks_55 : decode cX10_lacks 55 = .ok (.invokevirtual 98, 3) := by decide +kernel
theorem dX10_lacks_58 : decode cX10_lacks 58 = .ok (.ireturn, 1) := by decide +kernel
noncomputable def F10_lacks (v1 : Int32) (v2 : Int32) (v3 : Int32) (mm : Mem) : Option (Int32 × Mem) :=
  (ck v1 4 (if (0 : Int32) ≤ (mm 1 v1.toNatClampNeg) then (ck v1 4 (if (mm 1 v1.toNatClampNeg) = v2 then (ck v1 4 ((F10_in v3.toInt64 (0 : Int64) (((mm 2 v1.toNatClampNeg) - (1 : Int32)).toInt64)).bind (fun q11 => (if q11 = (0 : Int32) then ((F10_finds (2 : Int32) mm).bind (fun q12 => (some (q12.1, q12.2)))) else some ((0 : Int32), mm))))) else ((F10_finds (3 : Int32) mm).bind (fun q13 => (some (q13.1, q13.2)))))) else ((F10_finds (1 : Int32) mm).bind (fun q14 => (some (q14.1, q14.2))))))
set_option maxHeartbeats 4000000 in
set_option maxRecDepth 100000 in
theorem kX10_lacks (l : Launch) (g : GG) (v1 : Int32) (v2 : Int32) (v3 : Int32) (mc mm : Mem) (q : Int32 × Mem) (hF : F10_lacks v1 v2 v3 mm = some q) : KI l yX10_lacks cX10_lacks 4 .int 1 25 g [.ref (g.1 108), .int v1, .int v2, .int v3] mc mm q.1 (mc, q.2) := by
  intro sz
  refine x_start (Qc := fun z => QI g z q.1 (mc, q.2)) (by decide +kernel) (Nat.le_of_ble_eq_true rfl) ?_ sz
  intro p e s m args below meth c ls Z hr hlk hP hl
  have hx := Z.1.1
  have hb := Z.1.2.1
  have hown := Z.1.2.2.2.1
  have hts := Z.1.2.2.2.2
  have hS : va_S (AA g s.heap.size) s.heap s.heap [] := va_S.rf
  have hl : lv_has ls 4 [(0, .ref (g.1 108)), (1, .int v1), (2, .int v2), (3, .int v3)] := hl
  unfold F10_lacks at hF
  refine lv_aload_n hx hb dX10_lacks_0 rfl (lv_at hl 0 rfl) ?_
  refine gf10_0 Z hP wd_6_4 dX10_lacks_1 ?_
  refine lv_iload_n hx hb dX10_lacks_4 rfl (lv_at hl 1 rfl) ?_
  obtain ⟨hi8, hF⟩ := ck_ok hF
  refine rM_ld Z hP 4 1 (by decide +kernel) hi8 dX10_lacks_5 ?_
  refine lv_if_ge (tgt := 15) hx hb dX10_lacks_6 rfl (fun hc => ?_) (fun hc => ?_)
  · have hF := (if_pos hc).symm.trans hF
    refine lv_aload_n hx hb dX10_lacks_15 rfl (lv_at hl 0 rfl) ?_
    refine gf10_0 Z hP wd_6_4 dX10_lacks_16 ?_
    refine lv_iload_n hx hb dX10_lacks_19 rfl (lv_at hl 1 rfl) ?_
    obtain ⟨hi9, hF⟩ := ck_ok hF
    refine rM_ld Z hP 4 1 (by decide +kernel) hi9 dX10_lacks_20 ?_
    refine lv_iload_n hx hb dX10_lacks_21 rfl (lv_at hl 2 rfl) ?_
    refine lv_icmp_eq (tgt := 31) hx hb dX10_lacks_22 rfl (fun hc => ?_) (fun hc => ?_)
    · have hF := (if_pos hc).symm.trans hF
      refine lv_iload_n hx hb dX10_lacks_31 rfl (lv_at hl 3 rfl) ?_
      refine lv_i2l (v := v3.toInt64) hx hb dX10_lacks_32 rfl ?_
      refine lv_lconst (v := (0 : Int64)) hx hb dX10_lacks_33 lc_0 ?_
      refine lv_aload_n hx hb dX10_lacks_34 rfl (lv_at hl 0 rfl) ?_
      refine gf10_1 Z hP wd_6_5 dX10_lacks_35 ?_
      refine lv_iload_n hx hb dX10_lacks_38 rfl (lv_at hl 1 rfl) ?_
      obtain ⟨hi10, hF⟩ := ck_ok hF
      refine rM_ld Z hP 4 2 (by decide +kernel) hi10 dX10_lacks_39 ?_
      refine lv_iconst (v := (1 : Int32)) hx hb dX10_lacks_40 ic_1 ?_
      refine lv_isub hx hb dX10_lacks_41 ?_
      refine lv_i2l (v := ((mm 2 v1.toNatClampNeg) - (1 : Int32)).toInt64) hx hb dX10_lacks_42 rfl ?_
      obtain ⟨q11, hq11, hF⟩ := bd_ok hF
      refine xX10_in Z hP hS hq11 wd_13_8 hl.1 (Nat.le_of_ble_eq_true rfl) ⟨Nat.le_of_ble_eq_true rfl, Nat.le_of_ble_eq_true rfl⟩ dX10_lacks_43 (fun H locs hP hS => ?_)
      refine lv_if_eq (tgt := 53) hx hb dX10_lacks_46 rfl (fun hc => ?_) (fun hc => ?_)
      · have hF := (if_pos hc).symm.trans hF
        refine lv_aload_n hx hb dX10_lacks_53 rfl (lv_at hl 0 rfl) ?_
        refine lv_iconst (v := (2 : Int32)) hx hb dX10_lacks_54 ic_2 ?_
        obtain ⟨q12, hq12, hF⟩ := bd_ok hF
        refine xX10_finds Z hP hS hq12 wd_20_0 hl.1 (Nat.le_of_ble_eq_true rfl) ⟨Nat.le_of_ble_eq_true rfl, Nat.le_of_ble_eq_true rfl⟩ dX10_lacks_55 (fun H locs hP hS => ?_)
        exact ret_IWM Z hr hlk hP hS hF dX10_lacks_58
      · have hF := (if_neg hc).symm.trans hF
        refine lv_iconst (v := (0 : Int32)) hx hb dX10_lacks_49 ic_0 ?_
        refine lv_goto (tgt := 58) hx hb dX10_lacks_50 rfl ?_
        exact ret_IWM Z hr hlk hP hS hF dX10_lacks_58
    · have hF := (if_neg hc).symm.trans hF
      refine lv_aload_n hx hb dX10_lacks_25 rfl (lv_at hl 0 rfl) ?_
      refine lv_iconst (v := (3 : Int32)) hx hb dX10_lacks_26 ic_3 ?_
      obtain ⟨q13, hq13, hF⟩ := bd_ok hF
      refine xX10_finds Z hP hS hq13 wd_20_0 hl.1 (Nat.le_of_ble_eq_true rfl) ⟨Nat.le_of_ble_eq_true rfl, Nat.le_of_ble_eq_true rfl⟩ dX10_lacks_27 (fun H locs hP hS => ?_)
      exact ret_IWM Z hr hlk hP hS hF dX10_lacks_30
  · have hF := (if_neg hc).symm.trans hF
    refine lv_aload_n hx hb dX10_lacks_9 rfl (lv_at hl 0 rfl) ?_
    refine lv_iconst (v := (1 : Int32)) hx hb dX10_lacks_10 ic_1 ?_
    obtain ⟨q14, hq14, hF⟩ := bd_ok hF
    refine xX10_finds Z hP hS hq14 wd_20_0 hl.1 (Nat.le_of_ble_eq_true rfl) ⟨Nat.le_of_ble_eq_true rfl, Nat.le_of_ble_eq_true rfl⟩ dX10_lacks_11 (fun H locs hP hS => ?_)
    exact ret_IWM Z hr hlk hP hS hF dX10_lacks_14
theorem xX10_lacks {p : Program} {l : Launch} {e : Env} {R : Room} {s : State} {m : MethodId} {args : Array Value} {below : List Frame} {meth : Method} {c : Code} {H : Heap} {locs : List Loc} {Q : State → Prop} {cc : ByteArray} {nL : Nat} {own : String} {g : GG} {pc index : Nat} {ls : Array Slot} {rest : List Value} {mc mm : Mem} (Z : ZZ p s m args c cc nL own g) (hP : va_P g.2.2.1 vwCl (wL g mc mm) H) (hS : va_S (AA g s.heap.size) s.heap H locs) {v1 : Int32} {v2 : Int32} {v3 : Int32} {q : Int32 × Mem} (hq : F10_lacks v1 v2 v3 mm = some q) (hlk : Cond.methodLink own index yX10_lacks ∈ wsL_law) (hsz : ls.size = nL) (hro : (rest.map fun v => v.category).sum ≤ 8) (hR : 1 + 1 ≤ R.frames ∧ 8 + (4 + 11) + 25 ≤ R.locals) (hdg : decode cc pc = .ok (.invokevirtual index, 3)) (kk : ∀ (H : Heap) (locs : List Loc), va_P g.2.2.1 vwCl (wL g mc q.2) H → va_S (AA g s.heap.size) s.heap H locs → W p l e R s m args below meth c H locs 0 0 Q (F0 m (pc + 3) ls (.int q.1 :: rest))) : W p l e R s m args below meth c H locs 0 0 Q (F0 m pc ls (.int v3 :: .int v2 :: .int v1 :: .ref (g.1 108) :: rest)) :=
  x_VI Z hP hS (kX10_lacks l g v1 v2 v3 mc mm q hq) (mO) (ci := 10) (by decide) rfl rfl mf_X10_lacks mv_X10_lacks hlk rfl rfl hsz hro hR hdg kk
theorem dX10_cut_0 : decode cX10_cut 0 = .ok (.iload_n 0, 1) := by decide +kernel
theorem dX10_cut_1 : decode cX10_cut 1 = .ok (.ifCond .ne 8, 3) := by decide +kernel
theorem dX10_cut_4 : decode cX10_cut 4 = .ok (.iload_n 1, 1) := by decide +kernel
theorem dX10_cut_5 : decode cX10_cut 5 = .ok (.i2b, 1) := by decide +kernel
theorem dX10_cut_6 : decode cX10_cut 6 = .ok (.goto 14, 3) := by decide +kernel
theorem dX10_cut_9 : decode cX10_cut 9 = .ok (.iload_n 0, 1) := by decide +kernel
theorem dX10_cut_10 : decode cX10_cut 10 = .ok (.iconst 1, 1) := by decide +kernel
theorem dX10_cut_11 : decode cX10_cut 11 = .ok (.if_icmp .ne 8, 3) := by decide +kernel
theorem dX10_cut_14 : decode cX10_cut 14 = .ok (.iload_n 1, 1) := by decide +kernel
theorem dX10_cut_15 : decode cX10_cut 15 = .ok (.i2s, 1) := by decide +kernel
theorem dX10_cut_16 : decode cX10_cut 16 = .ok (.goto 4, 3) := by decide +kernel
theorem dX10_cut_19 : decode cX10_cut 19 = .ok (.iload_n 1, 1) := by decide +kernel
theorem dX10_cut_20 : decode cX10_cut 20 = .ok (.ireturn, 1) := by decide +kernel
noncomputable def F10_cut (v0 : Int32) (v1 : Int32) : Option (Int32) :=
  (if v0 = (0 : Int32) then some v1.toInt8.toInt32 else (if v0 = (1 : Int32) then some v1.toInt16.toInt32 else some v1))
set_option maxHeartbeats 4000000 in
set_option maxRecDepth 100000 in
theorem kX10_cut (l : Launch) (g : GG) (v0 : Int32) (v1 : Int32) (mc mm : Mem) (q : Int32) (hF : F10_cut v0 v1 = some q) : KI l yX10_cut cX10_cut 2 .int 0 0 g [.int v0, .int v1] mc mm q (mc, mm) := by
  intro sz
  refine x_start (Qc := fun z => QI g z q (mc, mm)) (by decide +kernel) (Nat.le_of_ble_eq_true rfl) ?_ sz
  intro p e s m args below meth c ls Z hr hlk hP hl
  have hx := Z.1.1
  have hb := Z.1.2.1
  have hown := Z.1.2.2.2.1
  have hts := Z.1.2.2.2.2
  have hS : va_S (AA g s.heap.size) s.heap s.heap [] := va_S.rf
  have hl : lv_has ls 2 [(0, .int v0), (1, .int v1)] := hl
  unfold F10_cut at hF
  refine lv_iload_n hx hb dX10_cut_0 rfl (lv_at hl 0 rfl) ?_
  refine lv_if_ne (tgt := 9) hx hb dX10_cut_1 rfl (fun hc => ?_) (fun hc => ?_)
  · have hF := (if_neg hc).symm.trans hF
    refine lv_iload_n hx hb dX10_cut_9 rfl (lv_at hl 0 rfl) ?_
    refine lv_iconst (v := (1 : Int32)) hx hb dX10_cut_10 ic_1 ?_
    refine lv_icmp_ne (tgt := 19) hx hb dX10_cut_11 rfl (fun hc => ?_) (fun hc => ?_)
    · have hF := (if_neg hc).symm.trans hF
      refine lv_iload_n hx hb dX10_cut_19 rfl (lv_at hl 1 rfl) ?_
      exact ret_I Z hr hlk hP hS hF dX10_cut_20
    · have hF := (if_pos hc).symm.trans hF
      refine lv_iload_n hx hb dX10_cut_14 rfl (lv_at hl 1 rfl) ?_
      refine lv_i2s (v := v1.toInt16.toInt32) hx hb dX10_cut_15 rfl ?_
      refine lv_goto (tgt := 20) hx hb dX10_cut_16 rfl ?_
      exact ret_I Z hr hlk hP hS hF dX10_cut_20
  · have hF := (if_pos hc).symm.trans hF
    refine lv_iload_n hx hb dX10_cut_4 rfl (lv_at hl 1 rfl) ?_
    refine lv_i2b (v := v1.toInt8.toInt32) hx hb dX10_cut_5 rfl ?_
    refine lv_goto (tgt := 20) hx hb dX10_cut_6 rfl ?_
    exact ret_I Z hr hlk hP hS hF dX10_cut_20
theorem xX10_cut {p : Program} {l : Launch} {e : Env} {R : Room} {s : State} {m : MethodId} {args : Array Value} {below : List Frame} {meth : Method} {c : Code} {H : Heap} {locs : List Loc} {Q : State → Prop} {cc : ByteArray} {nL : Nat} {own : String} {g : GG} {pc index : Nat} {ls : Array Slot} {rest : List Value} {mc mm : Mem} (Z : ZZ p s m args c cc nL own g) (hP : va_P g.2.2.1 vwCl (wL g mc mm) H) (hS : va_S (AA g s.heap.size) s.heap H locs) {v0 : Int32} {v1 : Int32} {q : Int32} (hq : F10_cut v0 v1 = some q) (hlk : Cond.methodLink own index yX10_cut ∈ wsL_law) (hsz : ls.size = nL) (hro : (rest.map fun v => v.category).sum ≤ 8) (hR : 0 + 1 ≤ R.frames ∧ 8 + (2 + 11) + 0 ≤ R.locals) (hdg : decode cc pc = .ok (.invokestatic index, 3)) (kk : ∀ (H : Heap) (locs : List Loc), va_P g.2.2.1 vwCl (wL g mc mm) H → va_S (AA g s.heap.size) s.heap H locs → W p l e R s m args below meth c H locs 0 0 Q (F0 m (pc + 3) ls (.int q :: rest))) : W p l e R s m args below meth c H locs 0 0 Q (F0 m pc ls (.int v1 :: .int v0 :: rest)) :=
  x_SI Z hP hS (kX10_cut l g v0 v1 mc mm q hq) mf_X10_cut wd_41_1 hlk rfl rfl hsz hro hR hdg kk
theorem dX10_lay_0 : decode cX10_lay 0 = .ok (.iload_n 1, 1) := by decide +kernel
theorem dX10_lay_1 : decode cX10_lay 1 = .ok (.invokestatic 92, 3) := by decide +kernel
theorem dX10_lay_4 : decode cX10_lay 4 = .ok (.ifCond .eq 15, 3) := by decide +kernel
theorem dX10_lay_7 : decode cX10_lay 7 = .ok (.iload_n 2, 1) := by decide +kernel
theorem dX10_lay_8 : decode cX10_lay 8 = .ok (.i2l, 1) := by decide +kernel
theorem dX10_lay_9 : decode cX10_lay 9 = .ok (.lconst 0, 1) := by decide +kernel
theorem dX10_lay_10 : decode cX10_lay 10 = .ok (.ldc2_w 96, 3) := by decide +kernel
theorem dX10_lay_13 : decode cX10_lay 13 = .ok (.invokestatic 83, 3) := by decide +kernel
theorem dX10_lay_16 : decode cX10_lay 16 = .ok (.ifCond .ne 6, 3) := by decide +kernel
theorem dX10_lay_19 : decode cX10_lay 19 = .ok (.bipush (-2), 2) := by decide +kernel
theorem dX10_lay_21 : decode cX10_lay 21 = .ok (.ireturn, 1) := by decide +kernel
theorem dX10_lay_22 : decode cX10_lay 22 = .ok (.aload_n 0, 1) := by decide +kernel
theorem dX10_lay_23 : decode cX10_lay 23 = .ok (.iload_n 1, 1) := by decide +kernel
theorem dX10_lay_24 : decode cX10_lay 24 = .ok (.iload_n 2, 1) := by decide +kernel
theorem dX10_lay_25 : decode cX10_lay 25 = .ok (.iload_n 3, 1) := by decide +kernel
theorem dX10_lay_26 : decode cX10_lay 26 = .ok (.invokevirtual 102, 3) := by decide +kernel
theorem dX10_lay_29 : decode cX10_lay 29 = .ok (.istore 5, 2) := by decide +kernel
theorem dX10_lay_31 : decode cX10_lay 31 = .ok (.iload 5, 2) := by decide +kernel
theorem dX10_lay_33 : decode cX10_lay 33 = .ok (.ifCond .eq 6, 3) := by decide +kernel
theorem dX10_lay_36 : decode cX10_lay 36 = .ok (.iload 5, 2) := by decide +kernel
theorem dX10_lay_38 : decode cX10_lay 38 = .ok (.ireturn, 1) := by decide +kernel
theorem dX10_lay_39 : decode cX10_lay 39 = .ok (.aload_n 0, 1) := by decide +kernel
theorem dX10_lay_40 : decode cX10_lay 40 = .ok (.getfield 16, 3) := by decide +kernel
theorem dX10_lay_43 : decode cX10_lay 43 = .ok (.bipush 60, 2) := by decide +kernel
theorem dX10_lay_45 : decode cX10_lay 45 = .ok (.iload_n 1, 1) := by decide +kernel
theorem dX10_lay_46 : decode cX10_lay 46 = .ok (.imul, 1) := by decide +kernel
theorem dX10_lay_47 : decode cX10_lay 47 = .ok (.iload_n 3, 1) := by decide +kernel
theorem dX10_lay_48 : decode cX10_lay 48 = .ok (.iadd, 1) := by decide +kernel
theorem dX10_lay_49 : decode cX10_lay 49 = .ok (.iload_n 2, 1) := by decide +kernel
theorem dX10_lay_50 : decode cX10_lay 50 = .ok (.iload 4, 2) := by decide +kernel
theorem dX10_lay_52 : decode cX10_lay 52 = .ok (.invokestatic 106, 3) := by decide +kernel
theorem dX10_lay_55 : decode cX10_lay 55 = .ok (.iastore, 1) := by decide +kernel
theorem dX10_lay_56 : decode cX10_lay 56 = .ok (.iconst 1, 1) := by decide +kernel
theorem dX10_lay_57 : decode cX10_lay 57 = .ok (.ireturn, 1) := by decide +kernel
noncomputable def F10_lay (v1 : Int32) (v2 : Int32) (v3 : Int32) (v4 : Int32) (mm : Mem) : Option (Int32 × Mem) :=
  ((F10_isSheet v1).bind (fun q6 => (if q6 = (0 : Int32) then some ((-2 : Int32), mm) else ((F10_in v2.toInt64 (0 : Int64) (2 : Int64)).bind (fun q7 => (if q7 = (0 : Int32) then some ((-2 : Int32), mm) else ((F10_lacks v1 v2 v3 mm).bind (fun q8 => (if q8.1 = (0 : Int32) then ((F10_cut v2 v4).bind (fun q9 => (ck (((60 : Int32) * v1) + v3) 240 (some ((1 : Int32), (mset q8.2 3 (((60 : Int32) * v1) + v3).toNatClampNeg q9)))))) else some (q8.1, q8.2))))))))))
set_option maxHeartbeats 4000000 in
set_option maxRecDepth 100000 in
theorem kX10_lay (l : Launch) (g : GG) (v1 : Int32) (v2 : Int32) (v3 : Int32) (v4 : Int32) (mc mm : Mem) (q : Int32 × Mem) (hF : F10_lay v1 v2 v3 v4 mm = some q) : KI l yX10_lay cX10_lay 6 .int 2 48 g [.ref (g.1 108), .int v1, .int v2, .int v3, .int v4] mc mm q.1 (mc, q.2) := by
  intro sz
  refine x_start (Qc := fun z => QI g z q.1 (mc, q.2)) (by decide +kernel) (Nat.le_of_ble_eq_true rfl) ?_ sz
  intro p e s m args below meth c ls Z hr hlk hP hl
  have hx := Z.1.1
  have hb := Z.1.2.1
  have hown := Z.1.2.2.2.1
  have hts := Z.1.2.2.2.2
  have hS : va_S (AA g s.heap.size) s.heap s.heap [] := va_S.rf
  have hl : lv_has ls 6 [(0, .ref (g.1 108)), (1, .int v1), (2, .int v2), (3, .int v3), (4, .int v4)] := hl
  unfold F10_lay at hF
  refine lv_iload_n hx hb dX10_lay_0 rfl (lv_at hl 1 rfl) ?_
  obtain ⟨q6, hq6, hF⟩ := bd_ok hF
  refine xX10_isSheet Z hP hS hq6 wd_19_21 hl.1 (Nat.le_of_ble_eq_true rfl) ⟨Nat.le_of_ble_eq_true rfl, Nat.le_of_ble_eq_true rfl⟩ dX10_lay_1 (fun H locs hP hS => ?_)
  refine lv_if_eq (tgt := 19) hx hb dX10_lay_4 rfl (fun hc => ?_) (fun hc => ?_)
  · have hF := (if_pos hc).symm.trans hF
    refine lv_bipush (v := (-2 : Int32)) hx hb dX10_lay_19 bp_m2 ?_
    exact ret_IWM Z hr hlk hP hS hF dX10_lay_21
  · have hF := (if_neg hc).symm.trans hF
    refine lv_iload_n hx hb dX10_lay_7 rfl (lv_at hl 2 rfl) ?_
    refine lv_i2l (v := v2.toInt64) hx hb dX10_lay_8 rfl ?_
    refine lv_lconst (v := (0 : Int64)) hx hb dX10_lay_9 lc_0 ?_
    refine lv_ldc2 (v := (2 : Int64)) hx hb hown (hts _ wd_18_3) dX10_lay_10 ?_
    obtain ⟨q7, hq7, hF⟩ := bd_ok hF
    refine xX10_in Z hP hS hq7 wd_13_8 hl.1 (Nat.le_of_ble_eq_true rfl) ⟨Nat.le_of_ble_eq_true rfl, Nat.le_of_ble_eq_true rfl⟩ dX10_lay_13 (fun H locs hP hS => ?_)
    refine lv_if_ne (tgt := 22) hx hb dX10_lay_16 rfl (fun hc => ?_) (fun hc => ?_)
    · have hF := (if_neg hc).symm.trans hF
      refine lv_aload_n hx hb dX10_lay_22 rfl (lv_at hl 0 rfl) ?_
      refine lv_iload_n hx hb dX10_lay_23 rfl (lv_at hl 1 rfl) ?_
      refine lv_iload_n hx hb dX10_lay_24 rfl (lv_at hl 2 rfl) ?_
      refine lv_iload_n hx hb dX10_lay_25 rfl (lv_at hl 3 rfl) ?_
      obtain ⟨q8, hq8, hF⟩ := bd_ok hF
      refine xX10_lacks Z hP hS hq8 wd_40_20 hl.1 (Nat.le_of_ble_eq_true rfl) ⟨Nat.le_of_ble_eq_true rfl, Nat.le_of_ble_eq_true rfl⟩ dX10_lay_26 (fun H locs hP hS => ?_)
      refine lv_istore (lv' := [(5, .int q8.1), (0, .ref (g.1 108)), (1, .int v1), (2, .int v2), (3, .int v3), (4, .int v4)]) hx hb dX10_lay_29 hl (Nat.le_of_ble_eq_true rfl) rfl (fun ls hl => ?_)
      refine lv_iload hx hb dX10_lay_31 (lv_at hl 0 rfl) ?_
      refine lv_if_eq (tgt := 39) hx hb dX10_lay_33 rfl (fun hc => ?_) (fun hc => ?_)
      · have hF := (if_pos hc).symm.trans hF
        refine lv_aload_n hx hb dX10_lay_39 rfl (lv_at hl 1 rfl) ?_
        refine gf10_2 Z hP wd_6_6 dX10_lay_40 ?_
        refine lv_bipush (v := (60 : Int32)) hx hb dX10_lay_43 bp_60 ?_
        refine lv_iload_n hx hb dX10_lay_45 rfl (lv_at hl 2 rfl) ?_
        refine lv_imul hx hb dX10_lay_46 ?_
        refine lv_iload_n hx hb dX10_lay_47 rfl (lv_at hl 4 rfl) ?_
        refine lv_iadd hx hb dX10_lay_48 ?_
        refine lv_iload_n hx hb dX10_lay_49 rfl (lv_at hl 3 rfl) ?_
        refine lv_iload hx hb dX10_lay_50 (lv_at hl 5 rfl) ?_
        obtain ⟨q9, hq9, hF⟩ := bd_ok hF
        refine xX10_cut Z hP hS hq9 wd_41_0 hl.1 (Nat.le_of_ble_eq_true rfl) ⟨Nat.le_of_ble_eq_true rfl, Nat.le_of_ble_eq_true rfl⟩ dX10_lay_52 (fun H locs hP hS => ?_)
        obtain ⟨hi10, hF⟩ := ck_ok hF
        refine rM_st Z hP hS 240 3 (by decide +kernel) hi10 dX10_lay_55 (fun H locs hP hS => ?_)
        refine lv_iconst (v := (1 : Int32)) hx hb dX10_lay_56 ic_1 ?_
        exact ret_IWM Z hr hlk hP hS hF dX10_lay_57
      · have hF := (if_neg hc).symm.trans hF
        refine lv_iload hx hb dX10_lay_36 (lv_at hl 0 rfl) ?_
        exact ret_IWM Z hr hlk hP hS hF dX10_lay_38
    · have hF := (if_pos hc).symm.trans hF
      refine lv_bipush (v := (-2 : Int32)) hx hb dX10_lay_19 bp_m2 ?_
      exact ret_IWM Z hr hlk hP hS hF dX10_lay_21
theorem xX10_lay {p : Program} {l : Launch} {e : Env} {R : Room} {s : State} {m : MethodId} {args : Array Value} {below : List Frame} {meth : Method} {c : Code} {H : Heap} {locs : List Loc} {Q : State → Prop} {cc : ByteArray} {nL : Nat} {own : String} {g : GG} {pc index : Nat} {ls : Array Slot} {rest : List Value} {mc mm : Mem} (Z : ZZ p s m args c cc nL own g) (hP : va_P g.2.2.1 vwCl (wL g mc mm) H) (hS : va_S (AA g s.heap.size) s.heap H locs) {v1 : Int32} {v2 : Int32} {v3 : Int32} {v4 : Int32} {q : Int32 × Mem} (hq : F10_lay v1 v2 v3 v4 mm = some q) (hlk : Cond.methodLink own index yX10_lay ∈ wsL_law) (hsz : ls.size = nL) (hro : (rest.map fun v => v.category).sum ≤ 8) (hR : 2 + 1 ≤ R.frames ∧ 8 + (6 + 11) + 48 ≤ R.locals) (hdg : decode cc pc = .ok (.invokevirtual index, 3)) (kk : ∀ (H : Heap) (locs : List Loc), va_P g.2.2.1 vwCl (wL g mc q.2) H → va_S (AA g s.heap.size) s.heap H locs → W p l e R s m args below meth c H locs 0 0 Q (F0 m (pc + 3) ls (.int q.1 :: rest))) : W p l e R s m args below meth c H locs 0 0 Q (F0 m pc ls (.int v4 :: .int v3 :: .int v2 :: .int v1 :: .ref (g.1 108) :: rest)) :=
  x_VI Z hP hS (kX10_lay l g v1 v2 v3 v4 mc mm q hq) (mO) (ci := 10) (by decide) rfl rfl mf_X10_lay mv_X10_lay hlk rfl rfl hsz hro hR hdg kk
theorem dX10_get_0 : decode cX10_get 0 = .ok (.iload_n 1, 1) := by decide +kernel
theorem dX10_get_1 : decode cX10_get 1 = .ok (.invokestatic 92, 3) := by decide +kernel
theorem dX10_get_4 : decode cX10_get 4 = .ok (.ifCond .eq 25, 3) := by decide +kernel
theorem dX10_get_7 : decode cX10_get 7 = .ok (.iload_n 2, 1) := by decide +kernel
theorem dX10_get_8 : decode cX10_get 8 = .ok (.i2l, 1) := by decide +kernel
theorem dX10_get_9 : decode cX10_get 9 = .ok (.lconst 0, 1) := by decide +kernel
theorem dX10_get_10 : decode cX10_get 10 = .ok (.ldc2_w 96, 3) := by decide +kernel
theorem dX10_get_13 : decode cX10_get 13 = .ok (.invokestatic 83, 3) := by decide +kernel
theorem dX10_get_16 : decode cX10_get 16 = .ok (.ifCond .eq 13, 3) := by decide +kernel
theorem dX10_get_19 : decode cX10_get 19 = .ok (.aload_n 0, 1) := by decide +kernel
theorem dX10_get_20 : decode cX10_get 20 = .ok (.iload_n 1, 1) := by decide +kernel
theorem dX10_get_21 : decode cX10_get 21 = .ok (.iload_n 2, 1) := by decide +kernel
theorem dX10_get_22 : decode cX10_get 22 = .ok (.iload_n 3, 1) := by decide +kernel
theorem dX10_get_23 : decode cX10_get 23 = .ok (.invokevirtual 102, 3) := by decide +kernel
theorem dX10_get_26 : decode cX10_get 26 = .ok (.ifCond .eq 6, 3) := by decide +kernel
theorem dX10_get_29 : decode cX10_get 29 = .ok (.ldc 110, 2) := by decide +kernel
theorem dX10_get_31 : decode cX10_get 31 = .ok (.ireturn, 1) := by decide +kernel
theorem dX10_get_32 : decode cX10_get 32 = .ok (.aload_n 0, 1) := by decide +kernel
theorem dX10_get_33 : decode cX10_get 33 = .ok (.getfield 16, 3) := by decide +kernel
theorem dX10_get_36 : decode cX10_get 36 = .ok (.bipush 60, 2) := by decide +kernel
theorem dX10_get_38 : decode cX10_get 38 = .ok (.iload_n 1, 1) := by decide +kernel
theorem dX10_get_39 : decode cX10_get 39 = .ok (.imul, 1) := by decide +kernel
theorem dX10_get_40 : decode cX10_get 40 = .ok (.iload_n 3, 1) := by decide +kernel
theorem dX10_get_41 : decode cX10_get 41 = .ok (.iadd, 1) := by decide +kernel
theorem dX10_get_42 : decode cX10_get 42 = .ok (.iaload, 1) := by decide +kernel
theorem dX10_get_43 : decode cX10_get 43 = .ok (.ireturn, 1) := by decide +kernel
noncomputable def F10_get (v1 : Int32) (v2 : Int32) (v3 : Int32) (mm : Mem) : Option (Int32 × Mem) :=
  ((F10_isSheet v1).bind (fun q5 => (if q5 = (0 : Int32) then some ((-2147483648 : Int32), mm) else ((F10_in v2.toInt64 (0 : Int64) (2 : Int64)).bind (fun q6 => (if q6 = (0 : Int32) then some ((-2147483648 : Int32), mm) else ((F10_lacks v1 v2 v3 mm).bind (fun q7 => (if q7.1 = (0 : Int32) then (ck (((60 : Int32) * v1) + v3) 240 (some ((q7.2 3 (((60 : Int32) * v1) + v3).toNatClampNeg), q7.2))) else some ((-2147483648 : Int32), q7.2))))))))))
set_option maxHeartbeats 4000000 in
set_option maxRecDepth 100000 in
theorem kX10_get (l : Launch) (g : GG) (v1 : Int32) (v2 : Int32) (v3 : Int32) (mc mm : Mem) (q : Int32 × Mem) (hF : F10_get v1 v2 v3 mm = some q) : KI l yX10_get cX10_get 4 .int 2 48 g [.ref (g.1 108), .int v1, .int v2, .int v3] mc mm q.1 (mc, q.2) := by
  intro sz
  refine x_start (Qc := fun z => QI g z q.1 (mc, q.2)) (by decide +kernel) (Nat.le_of_ble_eq_true rfl) ?_ sz
  intro p e s m args below meth c ls Z hr hlk hP hl
  have hx := Z.1.1
  have hb := Z.1.2.1
  have hown := Z.1.2.2.2.1
  have hts := Z.1.2.2.2.2
  have hS : va_S (AA g s.heap.size) s.heap s.heap [] := va_S.rf
  have hl : lv_has ls 4 [(0, .ref (g.1 108)), (1, .int v1), (2, .int v2), (3, .int v3)] := hl
  unfold F10_get at hF
  refine lv_iload_n hx hb dX10_get_0 rfl (lv_at hl 1 rfl) ?_
  obtain ⟨q5, hq5, hF⟩ := bd_ok hF
  refine xX10_isSheet Z hP hS hq5 wd_19_21 hl.1 (Nat.le_of_ble_eq_true rfl) ⟨Nat.le_of_ble_eq_true rfl, Nat.le_of_ble_eq_true rfl⟩ dX10_get_1 (fun H locs hP hS => ?_)
  refine lv_if_eq (tgt := 29) hx hb dX10_get_4 rfl (fun hc => ?_) (fun hc => ?_)
  · have hF := (if_pos hc).symm.trans hF
    refine lv_ldc (v := (-2147483648 : Int32)) hx hb hown (hts _ wd_41_12) dX10_get_29 ?_
    exact ret_IWM Z hr hlk hP hS hF dX10_get_31
  · have hF := (if_neg hc).symm.trans hF
    refine lv_iload_n hx hb dX10_get_7 rfl (lv_at hl 2 rfl) ?_
    refine lv_i2l (v := v2.toInt64) hx hb dX10_get_8 rfl ?_
    refine lv_lconst (v := (0 : Int64)) hx hb dX10_get_9 lc_0 ?_
    refine lv_ldc2 (v := (2 : Int64)) hx hb hown (hts _ wd_18_3) dX10_get_10 ?_
    obtain ⟨q6, hq6, hF⟩ := bd_ok hF
    refine xX10_in Z hP hS hq6 wd_13_8 hl.1 (Nat.le_of_ble_eq_true rfl) ⟨Nat.le_of_ble_eq_true rfl, Nat.le_of_ble_eq_true rfl⟩ dX10_get_13 (fun H locs hP hS => ?_)
    refine lv_if_eq (tgt := 29) hx hb dX10_get_16 rfl (fun hc => ?_) (fun hc => ?_)
    · have hF := (if_pos hc).symm.trans hF
      refine lv_ldc (v := (-2147483648 : Int32)) hx hb hown (hts _ wd_41_12) dX10_get_29 ?_
      exact ret_IWM Z hr hlk hP hS hF dX10_get_31
    · have hF := (if_neg hc).symm.trans hF
      refine lv_aload_n hx hb dX10_get_19 rfl (lv_at hl 0 rfl) ?_
      refine lv_iload_n hx hb dX10_get_20 rfl (lv_at hl 1 rfl) ?_
      refine lv_iload_n hx hb dX10_get_21 rfl (lv_at hl 2 rfl) ?_
      refine lv_iload_n hx hb dX10_get_22 rfl (lv_at hl 3 rfl) ?_
      obtain ⟨q7, hq7, hF⟩ := bd_ok hF
      refine xX10_lacks Z hP hS hq7 wd_40_20 hl.1 (Nat.le_of_ble_eq_true rfl) ⟨Nat.le_of_ble_eq_true rfl, Nat.le_of_ble_eq_true rfl⟩ dX10_get_23 (fun H locs hP hS => ?_)
      refine lv_if_eq (tgt := 32) hx hb dX10_get_26 rfl (fun hc => ?_) (fun hc => ?_)
      · have hF := (if_pos hc).symm.trans hF
        refine lv_aload_n hx hb dX10_get_32 rfl (lv_at hl 0 rfl) ?_
        refine gf10_2 Z hP wd_6_6 dX10_get_33 ?_
        refine lv_bipush (v := (60 : Int32)) hx hb dX10_get_36 bp_60 ?_
        refine lv_iload_n hx hb dX10_get_38 rfl (lv_at hl 1 rfl) ?_
        refine lv_imul hx hb dX10_get_39 ?_
        refine lv_iload_n hx hb dX10_get_40 rfl (lv_at hl 3 rfl) ?_
        refine lv_iadd hx hb dX10_get_41 ?_
        obtain ⟨hi8, hF⟩ := ck_ok hF
        refine rM_ld Z hP 240 3 (by decide +kernel) hi8 dX10_get_42 ?_
        exact ret_IWM Z hr hlk hP hS hF dX10_get_43
      · have hF := (if_neg hc).symm.trans hF
        refine lv_ldc (v := (-2147483648 : Int32)) hx hb hown (hts _ wd_41_12) dX10_get_29 ?_
        exact ret_IWM Z hr hlk hP hS hF dX10_get_31
theorem xX10_get {p : Program} {l : Launch} {e : Env} {R : Room} {s : State} {m : MethodId} {args : Array Value} {below : List Frame} {meth : Method} {c : Code} {H : Heap} {locs : List Loc} {Q : State → Prop} {cc : ByteArray} {nL : Nat} {own : String} {g : GG} {pc index : Nat} {ls : Array Slot} {rest : List Value} {mc mm : Mem} (Z : ZZ p s m args c cc nL own g) (hP : va_P g.2.2.1 vwCl (wL g mc mm) H) (hS : va_S (AA g s.heap.size) s.heap H locs) {v1 : Int32} {v2 : Int32} {v3 : Int32} {q : Int32 × Mem} (hq : F10_get v1 v2 v3 mm = some q) (hlk : Cond.methodLink own index yX10_get ∈ wsL_law) (hsz : ls.size = nL) (hro : (rest.map fun v => v.category).sum ≤ 8) (hR : 2 + 1 ≤ R.frames ∧ 8 + (4 + 11) + 48 ≤ R.locals) (hdg : decode cc pc = .ok (.invokevirtual index, 3)) (kk : ∀ (H : Heap) (locs : List Loc), va_P g.2.2.1 vwCl (wL g mc q.2) H → va_S (AA g s.heap.size) s.heap H locs → W p l e R s m args below meth c H locs 0 0 Q (F0 m (pc + 3) ls (.int q.1 :: rest))) : W p l e R s m args below meth c H locs 0 0 Q (F0 m pc ls (.int v3 :: .int v2 :: .int v1 :: .ref (g.1 108) :: rest)) :=
  x_VI Z hP hS (kX10_get l g v1 v2 v3 mc mm q hq) (mO) (ci := 10) (by decide) rfl rfl mf_X10_get mv_X10_get hlk rfl rfl hsz hro hR hdg kk

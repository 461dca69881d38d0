theorem dX9_drawLots_0 : decode cX9_drawLots 0 = .ok (.aload_n 0, 1) := by decide +kernel
theorem dX9_drawLots_1 : decode cX9_drawLots 1 = .ok (.getfield 77, 3) := by decide +kernel
theorem dX9_drawLots_4 : decode cX9_drawLots 4 = .ok (.iconst 0, 1) := by decide +kernel
theorem dX9_drawLots_5 : decode cX9_drawLots 5 = .ok (.putfield 160, 3) := by decide +kernel
theorem dX9_drawLots_8 : decode cX9_drawLots 8 = .ok (.aload_n 0, 1) := by decide +kernel
theorem dX9_drawLots_9 : decode cX9_drawLots 9 = .ok (.getfield 21, 3) := by decide +kernel
theorem dX9_drawLots_12 : decode cX9_drawLots 12 = .ok (.getfield 119, 3) := by decide +kernel
theorem dX9_drawLots_15 : decode cX9_drawLots 15 = .ok (.ifCond .ne 4, 3) := by decide +kernel
theorem dX9_drawLots_18 : decode cX9_drawLots 18 = .ok (.return_, 1) := by decide +kernel
theorem dX9_drawLots_19 : decode cX9_drawLots 19 = .ok (.iload_n 1, 1) := by decide +kernel
theorem dX9_drawLots_20 : decode cX9_drawLots 20 = .ok (.istore_n 3, 1) := by decide +kernel
theorem dX9_drawLots_21 : decode cX9_drawLots 21 = .ok (.iconst 0, 1) := by decide +kernel
theorem dX9_drawLots_22 : decode cX9_drawLots 22 = .ok (.istore 4, 2) := by decide +kernel
theorem dX9_drawLots_24 : decode cX9_drawLots 24 = .ok (.iload 4, 2) := by decide +kernel
theorem dX9_drawLots_26 : decode cX9_drawLots 26 = .ok (.iload_n 2, 1) := by decide +kernel
theorem dX9_drawLots_27 : decode cX9_drawLots 27 = .ok (.if_icmp .ge 62, 3) := by decide +kernel
theorem dX9_drawLots_30 : decode cX9_drawLots 30 = .ok (.iload_n 3, 1) := by decide +kernel
theorem dX9_drawLots_31 : decode cX9_drawLots 31 = .ok (.invokestatic 423, 3) := by decide +kernel
theorem dX9_drawLots_34 : decode cX9_drawLots 34 = .ok (.istore_n 3, 1) := by decide +kernel
theorem dX9_drawLots_35 : decode cX9_drawLots 35 = .ok (.iload_n 3, 1) := by decide +kernel
theorem dX9_drawLots_36 : decode cX9_drawLots 36 = .ok (.iconst 3, 1) := by decide +kernel
theorem dX9_drawLots_37 : decode cX9_drawLots 37 = .ok (.invokestatic 426, 3) := by decide +kernel
theorem dX9_drawLots_40 : decode cX9_drawLots 40 = .ok (.istore 5, 2) := by decide +kernel
theorem dX9_drawLots_42 : decode cX9_drawLots 42 = .ok (.iload_n 3, 1) := by decide +kernel
theorem dX9_drawLots_43 : decode cX9_drawLots 43 = .ok (.invokestatic 423, 3) := by decide +kernel
theorem dX9_drawLots_46 : decode cX9_drawLots 46 = .ok (.istore_n 3, 1) := by decide +kernel
theorem dX9_drawLots_47 : decode cX9_drawLots 47 = .ok (.iload_n 3, 1) := by decide +kernel
theorem dX9_drawLots_48 : decode cX9_drawLots 48 = .ok (.bipush 40, 2) := by decide +kernel
theorem dX9_drawLots_50 : decode cX9_drawLots 50 = .ok (.invokestatic 426, 3) := by decide +kernel
theorem dX9_drawLots_53 : decode cX9_drawLots 53 = .ok (.istore 6, 2) := by decide +kernel
theorem dX9_drawLots_55 : decode cX9_drawLots 55 = .ok (.iload_n 3, 1) := by decide +kernel
theorem dX9_drawLots_56 : decode cX9_drawLots 56 = .ok (.invokestatic 423, 3) := by decide +kernel
theorem dX9_drawLots_59 : decode cX9_drawLots 59 = .ok (.istore_n 3, 1) := by decide +kernel
theorem dX9_drawLots_60 : decode cX9_drawLots 60 = .ok (.aload_n 0, 1) := by decide +kernel
theorem dX9_drawLots_61 : decode cX9_drawLots 61 = .ok (.getfield 77, 3) := by decide +kernel
theorem dX9_drawLots_64 : decode cX9_drawLots 64 = .ok (.iload 5, 2) := by decide +kernel
theorem dX9_drawLots_66 : decode cX9_drawLots 66 = .ok (.iload 6, 2) := by decide +kernel
theorem dX9_drawLots_68 : decode cX9_drawLots 68 = .ok (.iload_n 3, 1) := by decide +kernel
theorem dX9_drawLots_69 : decode cX9_drawLots 69 = .ok (.aload_n 0, 1) := by decide +kernel
theorem dX9_drawLots_70 : decode cX9_drawLots 70 = .ok (.getfield 21, 3) := by decide +kernel
theorem dX9_drawLots_73 : decode cX9_drawLots 73 = .ok (.getfield 119, 3) := by decide +kernel
theorem dX9_drawLots_76 : decode cX9_drawLots 76 = .ok (.invokestatic 426, 3) := by decide +kernel
theorem dX9_drawLots_79 : decode cX9_drawLots 79 = .ok (.invokevirtual 155, 3) := by decide +kernel
theorem dX9_drawLots_82 : decode cX9_drawLots 82 = .ok (.pop, 1) := by decide +kernel
theorem dX9_drawLots_83 : decode cX9_drawLots 83 = .ok (.iinc 4 1, 3) := by decide +kernel
theorem dX9_drawLots_86 : decode cX9_drawLots 86 = .ok (.goto (-62), 3) := by decide +kernel
theorem dX9_drawLots_89 : decode cX9_drawLots 89 = .ok (.return_, 1) := by decide +kernel
noncomputable def F9_drawLots_p24 (kh : Int32 → Int32 → Mem → Option (Mem)) (v1 : Int32) (v2 : Int32) (a3 : Int32) (a4 : Int32) (M : Mem) : Option (Mem) :=
  (if v2 ≤ a4 then some M else ((F9_nextSeed a3).bind (fun q9 => ((F9_lot q9 (3 : Int32)).bind (fun q10 => ((F9_nextSeed q9).bind (fun q11 => ((F9_lot q11 (40 : Int32)).bind (fun q12 => ((F9_nextSeed q11).bind (fun q13 => ((F9_lot q13 (M 6 4)).bind (fun q14 => ((F2_add 88 q10 q12 q14 M).bind (fun q15 => (kh q13 (a4 + (1 : Int32)) q15.2))))))))))))))))
noncomputable def F9_drawLots_h24 (v1 : Int32) (v2 : Int32) : Nat → Int32 → Int32 → Mem → Option (Mem)
  | 0, _, _, _ => none
  | n + 1, a3, a4, M => F9_drawLots_p24 (F9_drawLots_h24 v1 v2 n) v1 v2 a3 a4 M
noncomputable def F9_drawLots (v1 : Int32) (v2 : Int32) (mc : Mem) : Option (Mem) :=
  (lt (mset mc 88 3 (0 : Int32)) (fun M16 => (if (M16 6 4) = (0 : Int32) then some M16 else (F9_drawLots_h24 v1 v2 FU) v1 (0 : Int32) M16)))
set_option maxHeartbeats 4000000 in
set_option maxRecDepth 100000 in
theorem kX9_drawLots (l : Launch) (g : GG) (v1 : Int32) (v2 : Int32) (mc mm : Mem) (q : Mem) (hF : F9_drawLots v1 v2 mc = some q) : KV l yX9_drawLots cX9_drawLots 7 1 23 g [.ref (g.1 0), .int v1, .int v2] mc mm (q, mm) := by
  intro sz
  refine x_start (Qc := fun z => QV g z (q, mm)) (by decide +kernel) (Nat.le_of_ble_eq_true rfl) ?_ sz
  intro p e s m args below meth c ls Z hr hlk hP hl
  have hx := Z.1.1
  have hb := Z.1.2.1
  have hown := Z.1.2.2.2.1
  have hts := Z.1.2.2.2.2
  have hS : va_S (AA g s.heap.size) s.heap s.heap [] := va_S.rf
  have hl : lv_has ls 7 [(0, .ref (g.1 0)), (1, .int v1), (2, .int v2)] := hl
  unfold F9_drawLots at hF
  have hL24 : ∀ n : Nat, ∀ (a3 : Int32) (a4 : Int32) (M : Mem), F9_drawLots_h24 v1 v2 n a3 a4 M = some q → ∀ (H : Heap) (locs : List Loc) (ls : Array Slot), lv_has ls 7 [(0, .ref (g.1 0)), (2, .int v2), (3, .int a3), (4, .int a4)] → va_P g.2.2.1 vwCl (wL g M mm) H → va_S (AA g s.heap.size) s.heap H locs → W p l e { frames := 1, cells := 0, slots := 0, locals := 23 } s m args below meth c H locs 0 0 (MQ below (QV g s.heap.size (q, mm)) args s 0 0 (AA g s.heap.size)) (F0 m 24 ls []) := by
    intro n
    induction n with
    | zero => intro a3 a4 M hF H locs ls hl hP hS; exact absurd hF (fun z => nomatch (show (none : Option _) = some q from z))
    | succ n ih =>
      generalize hkh : F9_drawLots_h24 v1 v2 n = kh at ih
      intro a3 a4 M hF H locs ls hl hP hS
      have hF : F9_drawLots_p24 (F9_drawLots_h24 v1 v2 n) v1 v2 a3 a4 M = some q := hF
      rw [hkh] at hF
      unfold F9_drawLots_p24 at hF
      refine lv_iload hx hb dX9_drawLots_24 (lv_at hl 3 rfl) ?_
      refine lv_iload_n hx hb dX9_drawLots_26 rfl (lv_at hl 1 rfl) ?_
      refine lv_icmp_ge (tgt := 89) hx hb dX9_drawLots_27 rfl (fun hc => ?_) (fun hc => ?_)
      · have hF := (if_pos hc).symm.trans hF
        exact ret_VWC Z hr hlk hP hS hF dX9_drawLots_89
      · have hF := (if_neg hc).symm.trans hF
        refine lv_iload_n hx hb dX9_drawLots_30 rfl (lv_at hl 2 rfl) ?_
        obtain ⟨q9, hq9, hF⟩ := bd_ok hF
        refine xX9_nextSeed Z hP hS hq9 wd_38_9 hl.1 (Nat.le_of_ble_eq_true rfl) ⟨Nat.le_of_ble_eq_true rfl, Nat.le_of_ble_eq_true rfl⟩ dX9_drawLots_31 (fun H locs hP hS => ?_)
        refine lv_istore_n (lv' := [(3, .int q9), (0, .ref (g.1 0)), (2, .int v2), (4, .int a4)]) hx hb dX9_drawLots_34 rfl hl (Nat.le_of_ble_eq_true rfl) rfl (fun ls hl => ?_)
        refine lv_iload_n hx hb dX9_drawLots_35 rfl (lv_at hl 0 rfl) ?_
        refine lv_iconst (v := (3 : Int32)) hx hb dX9_drawLots_36 ic_3 ?_
        obtain ⟨q10, hq10, hF⟩ := bd_ok hF
        refine xX9_lot Z hP hS hq10 wd_38_13 hl.1 (Nat.le_of_ble_eq_true rfl) ⟨Nat.le_of_ble_eq_true rfl, Nat.le_of_ble_eq_true rfl⟩ dX9_drawLots_37 (fun H locs hP hS => ?_)
        refine lv_istore (lv' := [(5, .int q10), (3, .int q9), (0, .ref (g.1 0)), (2, .int v2), (4, .int a4)]) hx hb dX9_drawLots_40 hl (Nat.le_of_ble_eq_true rfl) rfl (fun ls hl => ?_)
        refine lv_iload_n hx hb dX9_drawLots_42 rfl (lv_at hl 1 rfl) ?_
        obtain ⟨q11, hq11, hF⟩ := bd_ok hF
        refine xX9_nextSeed Z hP hS hq11 wd_38_9 hl.1 (Nat.le_of_ble_eq_true rfl) ⟨Nat.le_of_ble_eq_true rfl, Nat.le_of_ble_eq_true rfl⟩ dX9_drawLots_43 (fun H locs hP hS => ?_)
        refine lv_istore_n (lv' := [(3, .int q11), (5, .int q10), (0, .ref (g.1 0)), (2, .int v2), (4, .int a4)]) hx hb dX9_drawLots_46 rfl hl (Nat.le_of_ble_eq_true rfl) rfl (fun ls hl => ?_)
        refine lv_iload_n hx hb dX9_drawLots_47 rfl (lv_at hl 0 rfl) ?_
        refine lv_bipush (v := (40 : Int32)) hx hb dX9_drawLots_48 bp_40 ?_
        obtain ⟨q12, hq12, hF⟩ := bd_ok hF
        refine xX9_lot Z hP hS hq12 wd_38_13 hl.1 (Nat.le_of_ble_eq_true rfl) ⟨Nat.le_of_ble_eq_true rfl, Nat.le_of_ble_eq_true rfl⟩ dX9_drawLots_50 (fun H locs hP hS => ?_)
        refine lv_istore (lv' := [(6, .int q12), (3, .int q11), (5, .int q10), (0, .ref (g.1 0)), (2, .int v2), (4, .int a4)]) hx hb dX9_drawLots_53 hl (Nat.le_of_ble_eq_true rfl) rfl (fun ls hl => ?_)
        refine lv_iload_n hx hb dX9_drawLots_55 rfl (lv_at hl 1 rfl) ?_
        obtain ⟨q13, hq13, hF⟩ := bd_ok hF
        refine xX9_nextSeed Z hP hS hq13 wd_38_9 hl.1 (Nat.le_of_ble_eq_true rfl) ⟨Nat.le_of_ble_eq_true rfl, Nat.le_of_ble_eq_true rfl⟩ dX9_drawLots_56 (fun H locs hP hS => ?_)
        refine lv_istore_n (lv' := [(3, .int q13), (6, .int q12), (5, .int q10), (0, .ref (g.1 0)), (2, .int v2), (4, .int a4)]) hx hb dX9_drawLots_59 rfl hl (Nat.le_of_ble_eq_true rfl) rfl (fun ls hl => ?_)
        refine lv_aload_n hx hb dX9_drawLots_60 rfl (lv_at hl 3 rfl) ?_
        refine gf9_12 Z hP wd_2_23 dX9_drawLots_61 ?_
        refine lv_iload hx hb dX9_drawLots_64 (lv_at hl 2 rfl) ?_
        refine lv_iload hx hb dX9_drawLots_66 (lv_at hl 1 rfl) ?_
        refine lv_iload_n hx hb dX9_drawLots_68 rfl (lv_at hl 0 rfl) ?_
        refine lv_aload_n hx hb dX9_drawLots_69 rfl (lv_at hl 3 rfl) ?_
        refine gf9_1 Z hP wd_1_19 dX9_drawLots_70 ?_
        refine gf8_4N Z hP ck_6 nf_2 dX9_drawLots_73 ?_
        obtain ⟨q14, hq14, hF⟩ := bd_ok hF
        refine xX9_lot Z hP hS hq14 wd_38_13 hl.1 (Nat.le_of_ble_eq_true rfl) ⟨Nat.le_of_ble_eq_true rfl, Nat.le_of_ble_eq_true rfl⟩ dX9_drawLots_76 (fun H locs hP hS => ?_)
        obtain ⟨q15, hq15, hF⟩ := bd_ok hF
        refine xX2_add Z hP hS ck_88 hq15 wd_17_18 hl.1 (Nat.le_of_ble_eq_true rfl) ⟨Nat.le_of_ble_eq_true rfl, Nat.le_of_ble_eq_true rfl⟩ dX9_drawLots_79 (fun H locs hP hS => ?_)
        refine lv_pop hx hb dX9_drawLots_82 rfl ?_
        refine lv_iinc (lv' := [(4, .int (a4 + (1 : Int32))), (3, .int q13), (6, .int q12), (5, .int q10), (0, .ref (g.1 0)), (2, .int v2)]) (v := (a4 + (1 : Int32))) hx hb dX9_drawLots_83 hl (k := 5) rfl (io_1 _) (Nat.le_of_ble_eq_true rfl) rfl (fun ls hl => ?_)
        refine lv_goto (tgt := 24) hx hb dX9_drawLots_86 rfl ?_
        exact ih _ _ _ hF _ _ _ (lv_sub hl [4, 5, 1, 0] rfl) hP hS
  refine lv_aload_n hx hb dX9_drawLots_0 rfl (lv_at hl 0 rfl) ?_
  refine gf9_12 Z hP wd_2_23 dX9_drawLots_1 ?_
  refine lv_iconst (v := (0 : Int32)) hx hb dX9_drawLots_4 ic_0 ?_
  refine pf2_3N Z hP hS ck_88 nf_12 dX9_drawLots_5 (fun H locs hP hS => ?_)
  refine lv_aload_n hx hb dX9_drawLots_8 rfl (lv_at hl 0 rfl) ?_
  refine gf9_1 Z hP wd_1_19 dX9_drawLots_9 ?_
  obtain ⟨M16, eM16, hF⟩ := lt_ok hF
  have hP : va_P g.2.2.1 vwCl (wL g M16 mm) H := by rw [eM16]; exact hP
  refine gf8_4N Z hP ck_6 nf_2 dX9_drawLots_12 ?_
  refine lv_if_ne (tgt := 19) hx hb dX9_drawLots_15 rfl (fun hc => ?_) (fun hc => ?_)
  · have hF := (if_neg hc).symm.trans hF
    refine lv_iload_n hx hb dX9_drawLots_19 rfl (lv_at hl 1 rfl) ?_
    refine lv_istore_n (lv' := [(3, .int v1), (0, .ref (g.1 0)), (1, .int v1), (2, .int v2)]) hx hb dX9_drawLots_20 rfl hl (Nat.le_of_ble_eq_true rfl) rfl (fun ls hl => ?_)
    refine lv_iconst (v := (0 : Int32)) hx hb dX9_drawLots_21 ic_0 ?_
    refine lv_istore (lv' := [(4, .int (0 : Int32)), (3, .int v1), (0, .ref (g.1 0)), (1, .int v1), (2, .int v2)]) hx hb dX9_drawLots_22 hl (Nat.le_of_ble_eq_true rfl) rfl (fun ls hl => ?_)
    exact (hL24 FU) _ _ _ hF _ _ _ (lv_sub hl [2, 4, 1, 0] rfl) hP hS
  · have hF := (if_pos hc).symm.trans hF
    exact ret_VWC Z hr hlk hP hS hF dX9_drawLots_18
theorem xX9_drawLots {p : Program} {l : Launch} {e : Env} {R : Room} {s : State} {m : MethodId} {args : Array Value} {below : List Frame} {meth : Method} {c : Code} {H : Heap} {locs : List Loc} {Q : State → Prop} {cc : ByteArray} {nL : Nat} {own : String} {g : GG} {pc index : Nat} {ls : Array Slot} {rest : List Value} {mc mm : Mem} (Z : ZZ p s m args c cc nL own g) (hP : va_P g.2.2.1 vwCl (wL g mc mm) H) (hS : va_S (AA g s.heap.size) s.heap H locs) {v1 : Int32} {v2 : Int32} {q : Mem} (hq : F9_drawLots v1 v2 mc = some q) (hlk : Cond.methodLink own index yX9_drawLots ∈ wsL_law) (hsz : ls.size = nL) (hro : (rest.map fun v => v.category).sum ≤ 8) (hR : 1 + 1 ≤ R.frames ∧ 8 + (7 + 11) + 23 ≤ R.locals) (hdg : decode cc pc = .ok (.invokevirtual index, 3)) (kk : ∀ (H : Heap) (locs : List Loc), va_P g.2.2.1 vwCl (wL g q mm) H → va_S (AA g s.heap.size) s.heap H locs → W p l e R s m args below meth c H locs 0 0 Q (F0 m (pc + 3) ls (rest))) : W p l e R s m args below meth c H locs 0 0 Q (F0 m pc ls (.int v2 :: .int v1 :: .ref (g.1 0) :: rest)) :=
  x_VV Z hP hS (kX9_drawLots l g v1 v2 mc mm q hq) (isO_w ck_0) (ci := 9) (by decide) rfl rfl mf_X9_drawLots mv_X9_drawLots hlk rfl rfl hsz hro hR hdg kk
theorem dX9_day_0 : decode cX9_day 0 = .ok (.iload_n 2, 1) := by decide +kernel
theorem dX9_day_1 : decode cX9_day 1 = .ok (.bipush 9, 2) := by decide +kernel
theorem dX9_day_3 : decode cX9_day 3 = .ok (.invokestatic 101, 3) := by decide +kernel
theorem dX9_day_6 : decode cX9_day 6 = .ok (.ifCond .eq 11, 3) := by decide +kernel
theorem dX9_day_9 : decode cX9_day 9 = .ok (.iload_n 3, 1) := by decide +kernel
theorem dX9_day_10 : decode cX9_day 10 = .ok (.iconst 2, 1) := by decide +kernel
theorem dX9_day_11 : decode cX9_day 11 = .ok (.invokestatic 101, 3) := by decide +kernel
theorem dX9_day_14 : decode cX9_day 14 = .ok (.ifCond .ne 6, 3) := by decide +kernel
theorem dX9_day_17 : decode cX9_day 17 = .ok (.bipush (-2), 2) := by decide +kernel
theorem dX9_day_19 : decode cX9_day 19 = .ok (.ireturn, 1) := by decide +kernel
theorem dX9_day_20 : decode cX9_day 20 = .ok (.aload_n 0, 1) := by decide +kernel
theorem dX9_day_21 : decode cX9_day 21 = .ok (.iload_n 1, 1) := by decide +kernel
theorem dX9_day_22 : decode cX9_day 22 = .ok (.iload_n 2, 1) := by decide +kernel
theorem dX9_day_23 : decode cX9_day 23 = .ok (.invokevirtual 267, 3) := by decide +kernel
theorem dX9_day_26 : decode cX9_day 26 = .ok (.aload_n 0, 1) := by decide +kernel
theorem dX9_day_27 : decode cX9_day 27 = .ok (.getfield 74, 3) := by decide +kernel
theorem dX9_day_30 : decode cX9_day 30 = .ok (.aload_n 0, 1) := by decide +kernel
theorem dX9_day_31 : decode cX9_day 31 = .ok (.getfield 77, 3) := by decide +kernel
theorem dX9_day_34 : decode cX9_day 34 = .ok (.iconst (-1), 1) := by decide +kernel
theorem dX9_day_35 : decode cX9_day 35 = .ok (.invokevirtual 232, 3) := by decide +kernel
theorem dX9_day_38 : decode cX9_day 38 = .ok (.iconst 0, 1) := by decide +kernel
theorem dX9_day_39 : decode cX9_day 39 = .ok (.istore 4, 2) := by decide +kernel
theorem dX9_day_41 : decode cX9_day 41 = .ok (.iconst 0, 1) := by decide +kernel
theorem dX9_day_42 : decode cX9_day 42 = .ok (.istore 5, 2) := by decide +kernel
theorem dX9_day_44 : decode cX9_day 44 = .ok (.iconst 0, 1) := by decide +kernel
theorem dX9_day_45 : decode cX9_day 45 = .ok (.istore 6, 2) := by decide +kernel
theorem dX9_day_47 : decode cX9_day 47 = .ok (.iload 6, 2) := by decide +kernel
theorem dX9_day_49 : decode cX9_day 49 = .ok (.aload_n 0, 1) := by decide +kernel
theorem dX9_day_50 : decode cX9_day 50 = .ok (.getfield 28, 3) := by decide +kernel
theorem dX9_day_53 : decode cX9_day 53 = .ok (.getfield 134, 3) := by decide +kernel
theorem dX9_day_56 : decode cX9_day 56 = .ok (.if_icmp .ge 97, 3) := by decide +kernel
theorem dX9_day_59 : decode cX9_day 59 = .ok (.aload_n 0, 1) := by decide +kernel
theorem dX9_day_60 : decode cX9_day 60 = .ok (.getfield 80, 3) := by decide +kernel
theorem dX9_day_63 : decode cX9_day 63 = .ok (.aload_n 0, 1) := by decide +kernel
theorem dX9_day_64 : decode cX9_day 64 = .ok (.getfield 21, 3) := by decide +kernel
theorem dX9_day_67 : decode cX9_day 67 = .ok (.aload_n 0, 1) := by decide +kernel
theorem dX9_day_68 : decode cX9_day 68 = .ok (.getfield 74, 3) := by decide +kernel
theorem dX9_day_71 : decode cX9_day 71 = .ok (.aload_n 0, 1) := by decide +kernel
theorem dX9_day_72 : decode cX9_day 72 = .ok (.getfield 28, 3) := by decide +kernel
theorem dX9_day_75 : decode cX9_day 75 = .ok (.iload 6, 2) := by decide +kernel
theorem dX9_day_77 : decode cX9_day 77 = .ok (.aload_n 0, 1) := by decide +kernel
theorem dX9_day_78 : decode cX9_day 78 = .ok (.getfield 28, 3) := by decide +kernel
theorem dX9_day_81 : decode cX9_day 81 = .ok (.getfield 138, 3) := by decide +kernel
theorem dX9_day_84 : decode cX9_day 84 = .ok (.iload 6, 2) := by decide +kernel
theorem dX9_day_86 : decode cX9_day 86 = .ok (.iaload, 1) := by decide +kernel
theorem dX9_day_87 : decode cX9_day 87 = .ok (.aload_n 0, 1) := by decide +kernel
theorem dX9_day_88 : decode cX9_day 88 = .ok (.getfield 28, 3) := by decide +kernel
theorem dX9_day_91 : decode cX9_day 91 = .ok (.getfield 141, 3) := by decide +kernel
theorem dX9_day_94 : decode cX9_day 94 = .ok (.iload 6, 2) := by decide +kernel
theorem dX9_day_96 : decode cX9_day 96 = .ok (.iaload, 1) := by decide +kernel
theorem dX9_day_97 : decode cX9_day 97 = .ok (.invokevirtual 198, 3) := by decide +kernel
theorem dX9_day_100 : decode cX9_day 100 = .ok (.iload 4, 2) := by decide +kernel
theorem dX9_day_102 : decode cX9_day 102 = .ok (.aload_n 0, 1) := by decide +kernel
theorem dX9_day_103 : decode cX9_day 103 = .ok (.getfield 80, 3) := by decide +kernel
theorem dX9_day_106 : decode cX9_day 106 = .ok (.invokevirtual 192, 3) := by decide +kernel
theorem dX9_day_109 : decode cX9_day 109 = .ok (.ifCond .eq 7, 3) := by decide +kernel
theorem dX9_day_112 : decode cX9_day 112 = .ok (.iconst 1, 1) := by decide +kernel
theorem dX9_day_113 : decode cX9_day 113 = .ok (.goto 4, 3) := by decide +kernel
theorem dX9_day_116 : decode cX9_day 116 = .ok (.iconst 0, 1) := by decide +kernel
theorem dX9_day_117 : decode cX9_day 117 = .ok (.iadd, 1) := by decide +kernel
theorem dX9_day_118 : decode cX9_day 118 = .ok (.istore 4, 2) := by decide +kernel
theorem dX9_day_120 : decode cX9_day 120 = .ok (.iload 5, 2) := by decide +kernel
theorem dX9_day_122 : decode cX9_day 122 = .ok (.aload_n 0, 1) := by decide +kernel
theorem dX9_day_123 : decode cX9_day 123 = .ok (.getfield 80, 3) := by decide +kernel
theorem dX9_day_126 : decode cX9_day 126 = .ok (.aload_n 0, 1) := by decide +kernel
theorem dX9_day_127 : decode cX9_day 127 = .ok (.getfield 21, 3) := by decide +kernel
theorem dX9_day_130 : decode cX9_day 130 = .ok (.getfield 270, 3) := by decide +kernel
theorem dX9_day_133 : decode cX9_day 133 = .ok (.invokevirtual 186, 3) := by decide +kernel
theorem dX9_day_136 : decode cX9_day 136 = .ok (.ifCond .eq 7, 3) := by decide +kernel
theorem dX9_day_139 : decode cX9_day 139 = .ok (.iconst 1, 1) := by decide +kernel
theorem dX9_day_140 : decode cX9_day 140 = .ok (.goto 4, 3) := by decide +kernel
theorem dX9_day_143 : decode cX9_day 143 = .ok (.iconst 0, 1) := by decide +kernel
theorem dX9_day_144 : decode cX9_day 144 = .ok (.iadd, 1) := by decide +kernel
theorem dX9_day_145 : decode cX9_day 145 = .ok (.istore 5, 2) := by decide +kernel
theorem dX9_day_147 : decode cX9_day 147 = .ok (.iinc 6 1, 3) := by decide +kernel
theorem dX9_day_150 : decode cX9_day 150 = .ok (.goto (-103), 3) := by decide +kernel
theorem dX9_day_153 : decode cX9_day 153 = .ok (.iload_n 3, 1) := by decide +kernel
theorem dX9_day_154 : decode cX9_day 154 = .ok (.ifCond .ne 8, 3) := by decide +kernel
theorem dX9_day_157 : decode cX9_day 157 = .ok (.iload 4, 2) := by decide +kernel
theorem dX9_day_159 : decode cX9_day 159 = .ok (.goto 5, 3) := by decide +kernel
theorem dX9_day_162 : decode cX9_day 162 = .ok (.iload 5, 2) := by decide +kernel
theorem dX9_day_164 : decode cX9_day 164 = .ok (.ireturn, 1) := by decide +kernel
noncomputable def F9_day_b153 (v1 : Int32) (v2 : Int32) (v3 : Int32) (a4 : Int32) (a5 : Int32) (M : Mem) : Option (Int32 × Mem) :=
  (if v3 = (0 : Int32) then some (a4, M) else some (a5, M))
noncomputable def F9_day_b144 (kh : Int32 → Int32 → Int32 → Mem → Option (Int32 × Mem)) (kx153 : Int32 → Int32 → Mem → Option (Int32 × Mem)) (v1 : Int32) (v2 : Int32) (v3 : Int32) (a4 : Int32) (a6 : Int32) (s0 : Int32) (s1 : Int32) (M : Mem) : Option (Int32 × Mem) :=
  kh a4 (s0 + s1) (a6 + (1 : Int32)) M
noncomputable def F9_day_b117 (kh : Int32 → Int32 → Int32 → Mem → Option (Int32 × Mem)) (kx153 : Int32 → Int32 → Mem → Option (Int32 × Mem)) (v1 : Int32) (v2 : Int32) (v3 : Int32) (a5 : Int32) (a6 : Int32) (s0 : Int32) (s1 : Int32) (M : Mem) : Option (Int32 × Mem) :=
  ((F4_isHeardAt 92 (M 6 5) M).bind (fun q10 => (if q10 = (0 : Int32) then (F9_day_b144 kh kx153 v1 v2 v3) (s0 + s1) a6 a5 (0 : Int32) M else (F9_day_b144 kh kx153 v1 v2 v3) (s0 + s1) a6 a5 (1 : Int32) M)))
noncomputable def F9_day_p47 (kh : Int32 → Int32 → Int32 → Mem → Option (Int32 × Mem)) (kx153 : Int32 → Int32 → Mem → Option (Int32 × Mem)) (v1 : Int32) (v2 : Int32) (v3 : Int32) (a4 : Int32) (a5 : Int32) (a6 : Int32) (M : Mem) : Option (Int32 × Mem) :=
  (if (M 11 5) ≤ a6 then kx153 a4 a5 M else (ck a6 8 (ck a6 8 ((F4_follow 92 6 84 11 a6 (M 13 a6.toNatClampNeg) (M 14 a6.toNatClampNeg) M).bind (fun q13 => ((F4_isGone 92 q13).bind (fun q14 => (if q14 = (0 : Int32) then (F9_day_b117 kh kx153 v1 v2 v3) a5 a6 a4 (0 : Int32) q13 else (F9_day_b117 kh kx153 v1 v2 v3) a5 a6 a4 (1 : Int32) q13))))))))
noncomputable def F9_day_h47 (kx153 : Int32 → Int32 → Mem → Option (Int32 × Mem)) (v1 : Int32) (v2 : Int32) (v3 : Int32) : Nat → Int32 → Int32 → Int32 → Mem → Option (Int32 × Mem)
  | 0, _, _, _, _ => none
  | n + 1, a4, a5, a6, M => F9_day_p47 (F9_day_h47 kx153 v1 v2 v3 n) kx153 v1 v2 v3 a4 a5 a6 M
noncomputable def F9_day (v1 : Int32) (v2 : Int32) (v3 : Int32) (mc : Mem) : Option (Int32 × Mem) :=
  ((F9_in v2 (9 : Int32)).bind (fun q15 => (if q15 = (0 : Int32) then some ((-2 : Int32), mc) else ((F9_in v3 (2 : Int32)).bind (fun q16 => (if q16 = (0 : Int32) then some ((-2 : Int32), mc) else ((F9_drawLots v1 v2 mc).bind (fun q17 => ((F3_fill 84 88 (-1 : Int32) q17).bind (fun q18 => ((F9_day_h47 (F9_day_b153 v1 v2 v3) v1 v2 v3 FU) (0 : Int32) (0 : Int32) (0 : Int32) q18)))))))))))
set_option maxHeartbeats 4000000 in
set_option maxRecDepth 100000 in
theorem kX9_day (l : Launch) (g : GG) (v1 : Int32) (v2 : Int32) (v3 : Int32) (mc mm : Mem) (q : Int32 × Mem) (hF : F9_day v1 v2 v3 mc = some q) : KI l yX9_day cX9_day 7 .int 2 56 g [.ref (g.1 0), .int v1, .int v2, .int v3] mc mm q.1 (q.2, mm) := by
  intro sz
  refine x_start (Qc := fun z => QI g z q.1 (q.2, mm)) (by decide +kernel) (Nat.le_of_ble_eq_true rfl) ?_ sz
  intro p e s m args below meth c ls Z hr hlk hP hl
  have hx := Z.1.1
  have hb := Z.1.2.1
  have hown := Z.1.2.2.2.1
  have hts := Z.1.2.2.2.2
  have hS : va_S (AA g s.heap.size) s.heap s.heap [] := va_S.rf
  have hl : lv_has ls 7 [(0, .ref (g.1 0)), (1, .int v1), (2, .int v2), (3, .int v3)] := hl
  unfold F9_day at hF
  have hb153 : ∀ (a4 : Int32) (a5 : Int32) (M : Mem), F9_day_b153 v1 v2 v3 a4 a5 M = some q → ∀ (H : Heap) (locs : List Loc) (ls : Array Slot), lv_has ls 7 [(3, .int v3), (4, .int a4), (5, .int a5)] → va_P g.2.2.1 vwCl (wL g M mm) H → va_S (AA g s.heap.size) s.heap H locs → W p l e { frames := 2, cells := 0, slots := 0, locals := 56 } s m args below meth c H locs 0 0 (MQ below (QI g s.heap.size q.1 (q.2, mm)) args s 0 0 (AA g s.heap.size)) (F0 m 153 ls []) := by
    intro a4 a5 M hF H locs ls hl hP hS
    unfold F9_day_b153 at hF
    refine lv_iload_n hx hb dX9_day_153 rfl (lv_at hl 0 rfl) ?_
    refine lv_if_ne (tgt := 162) hx hb dX9_day_154 rfl (fun hc => ?_) (fun hc => ?_)
    · have hF := (if_neg hc).symm.trans hF
      refine lv_iload hx hb dX9_day_162 (lv_at hl 2 rfl) ?_
      exact ret_IWC Z hr hlk hP hS hF dX9_day_164
    · have hF := (if_pos hc).symm.trans hF
      refine lv_iload hx hb dX9_day_157 (lv_at hl 1 rfl) ?_
      refine lv_goto (tgt := 164) hx hb dX9_day_159 rfl ?_
      exact ret_IWC Z hr hlk hP hS hF dX9_day_164
  have hL47 : ∀ (kx153 : Int32 → Int32 → Mem → Option (Int32 × Mem)), (∀ (a4 : Int32) (a5 : Int32) (M : Mem), kx153 a4 a5 M = some q → ∀ (H : Heap) (locs : List Loc) (ls : Array Slot), lv_has ls 7 [(3, .int v3), (4, .int a4), (5, .int a5)] → va_P g.2.2.1 vwCl (wL g M mm) H → va_S (AA g s.heap.size) s.heap H locs → W p l e { frames := 2, cells := 0, slots := 0, locals := 56 } s m args below meth c H locs 0 0 (MQ below (QI g s.heap.size q.1 (q.2, mm)) args s 0 0 (AA g s.heap.size)) (F0 m 153 ls [])) → ∀ n : Nat, ∀ (a4 : Int32) (a5 : Int32) (a6 : Int32) (M : Mem), F9_day_h47 kx153 v1 v2 v3 n a4 a5 a6 M = some q → ∀ (H : Heap) (locs : List Loc) (ls : Array Slot), lv_has ls 7 [(0, .ref (g.1 0)), (3, .int v3), (4, .int a4), (5, .int a5), (6, .int a6)] → va_P g.2.2.1 vwCl (wL g M mm) H → va_S (AA g s.heap.size) s.heap H locs → W p l e { frames := 2, cells := 0, slots := 0, locals := 56 } s m args below meth c H locs 0 0 (MQ below (QI g s.heap.size q.1 (q.2, mm)) args s 0 0 (AA g s.heap.size)) (F0 m 47 ls []) := by
    intro kx153 hx153 n
    induction n with
    | zero => intro a4 a5 a6 M hF H locs ls hl hP hS; exact absurd hF (fun z => nomatch (show (none : Option _) = some q from z))
    | succ n ih =>
      generalize hkh : F9_day_h47 kx153 v1 v2 v3 n = kh at ih
      have hb144 : ∀ (a4 : Int32) (a6 : Int32) (s0 : Int32) (s1 : Int32) (M : Mem), F9_day_b144 kh kx153 v1 v2 v3 a4 a6 s0 s1 M = some q → ∀ (H : Heap) (locs : List Loc) (ls : Array Slot), lv_has ls 7 [(0, .ref (g.1 0)), (3, .int v3), (4, .int a4), (6, .int a6)] → va_P g.2.2.1 vwCl (wL g M mm) H → va_S (AA g s.heap.size) s.heap H locs → W p l e { frames := 2, cells := 0, slots := 0, locals := 56 } s m args below meth c H locs 0 0 (MQ below (QI g s.heap.size q.1 (q.2, mm)) args s 0 0 (AA g s.heap.size)) (F0 m 144 ls [.int s1, .int s0]) := by
        intro a4 a6 s0 s1 M hF H locs ls hl hP hS
        unfold F9_day_b144 at hF
        refine lv_iadd hx hb dX9_day_144 ?_
        refine lv_istore (lv' := [(5, .int (s0 + s1)), (0, .ref (g.1 0)), (3, .int v3), (4, .int a4), (6, .int a6)]) hx hb dX9_day_145 hl (Nat.le_of_ble_eq_true rfl) rfl (fun ls hl => ?_)
        refine lv_iinc (lv' := [(6, .int (a6 + (1 : Int32))), (5, .int (s0 + s1)), (0, .ref (g.1 0)), (3, .int v3), (4, .int a4)]) (v := (a6 + (1 : Int32))) hx hb dX9_day_147 hl (k := 4) rfl (io_1 _) (Nat.le_of_ble_eq_true rfl) rfl (fun ls hl => ?_)
        refine lv_goto (tgt := 47) hx hb dX9_day_150 rfl ?_
        exact ih _ _ _ _ hF _ _ _ (lv_sub hl [2, 3, 4, 1, 0] rfl) hP hS
      have hb117 : ∀ (a5 : Int32) (a6 : Int32) (s0 : Int32) (s1 : Int32) (M : Mem), F9_day_b117 kh kx153 v1 v2 v3 a5 a6 s0 s1 M = some q → ∀ (H : Heap) (locs : List Loc) (ls : Array Slot), lv_has ls 7 [(0, .ref (g.1 0)), (3, .int v3), (5, .int a5), (6, .int a6)] → va_P g.2.2.1 vwCl (wL g M mm) H → va_S (AA g s.heap.size) s.heap H locs → W p l e { frames := 2, cells := 0, slots := 0, locals := 56 } s m args below meth c H locs 0 0 (MQ below (QI g s.heap.size q.1 (q.2, mm)) args s 0 0 (AA g s.heap.size)) (F0 m 117 ls [.int s1, .int s0]) := by
        intro a5 a6 s0 s1 M hF H locs ls hl hP hS
        unfold F9_day_b117 at hF
        refine lv_iadd hx hb dX9_day_117 ?_
        refine lv_istore (lv' := [(4, .int (s0 + s1)), (0, .ref (g.1 0)), (3, .int v3), (5, .int a5), (6, .int a6)]) hx hb dX9_day_118 hl (Nat.le_of_ble_eq_true rfl) rfl (fun ls hl => ?_)
        refine lv_iload hx hb dX9_day_120 (lv_at hl 3 rfl) ?_
        refine lv_aload_n hx hb dX9_day_122 rfl (lv_at hl 1 rfl) ?_
        refine gf9_13 Z hP wd_3_0 dX9_day_123 ?_
        refine lv_aload_n hx hb dX9_day_126 rfl (lv_at hl 1 rfl) ?_
        refine gf9_1 Z hP wd_1_19 dX9_day_127 ?_
        refine gf8_5N Z hP ck_6 nf_21 dX9_day_130 ?_
        obtain ⟨q10, hq10, hF⟩ := bd_ok hF
        refine xX4_isHeardAt Z hP hS ck_92 hq10 wd_24_22 hl.1 (Nat.le_of_ble_eq_true rfl) ⟨Nat.le_of_ble_eq_true rfl, Nat.le_of_ble_eq_true rfl⟩ dX9_day_133 (fun H locs hP hS => ?_)
        refine lv_if_eq (tgt := 143) hx hb dX9_day_136 rfl (fun hc => ?_) (fun hc => ?_)
        · have hF := (if_pos hc).symm.trans hF
          refine lv_iconst (v := (0 : Int32)) hx hb dX9_day_143 ic_0 ?_
          exact hb144 _ _ _ _ _ hF _ _ _ (lv_sub hl [1, 2, 0, 4] rfl) hP hS
        · have hF := (if_neg hc).symm.trans hF
          refine lv_iconst (v := (1 : Int32)) hx hb dX9_day_139 ic_1 ?_
          refine lv_goto (tgt := 144) hx hb dX9_day_140 rfl ?_
          exact hb144 _ _ _ _ _ hF _ _ _ (lv_sub hl [1, 2, 0, 4] rfl) hP hS
      intro a4 a5 a6 M hF H locs ls hl hP hS
      have hF : F9_day_p47 (F9_day_h47 kx153 v1 v2 v3 n) kx153 v1 v2 v3 a4 a5 a6 M = some q := hF
      rw [hkh] at hF
      unfold F9_day_p47 at hF
      refine lv_iload hx hb dX9_day_47 (lv_at hl 4 rfl) ?_
      refine lv_aload_n hx hb dX9_day_49 rfl (lv_at hl 0 rfl) ?_
      refine gf9_2 Z hP wd_1_23 dX9_day_50 ?_
      refine gf5_5N Z hP ck_11 nf_7 dX9_day_53 ?_
      refine lv_icmp_ge (tgt := 153) hx hb dX9_day_56 rfl (fun hc => ?_) (fun hc => ?_)
      · have hF := (if_pos hc).symm.trans hF
        exact hx153 _ _ _ hF _ _ _ (lv_sub hl [1, 2, 3] rfl) hP hS
      · have hF := (if_neg hc).symm.trans hF
        refine lv_aload_n hx hb dX9_day_59 rfl (lv_at hl 0 rfl) ?_
        refine gf9_13 Z hP wd_3_0 dX9_day_60 ?_
        refine lv_aload_n hx hb dX9_day_63 rfl (lv_at hl 0 rfl) ?_
        refine gf9_1 Z hP wd_1_19 dX9_day_64 ?_
        refine lv_aload_n hx hb dX9_day_67 rfl (lv_at hl 0 rfl) ?_
        refine gf9_11 Z hP wd_2_22 dX9_day_68 ?_
        refine lv_aload_n hx hb dX9_day_71 rfl (lv_at hl 0 rfl) ?_
        refine gf9_2 Z hP wd_1_23 dX9_day_72 ?_
        refine lv_iload hx hb dX9_day_75 (lv_at hl 4 rfl) ?_
        refine lv_aload_n hx hb dX9_day_77 rfl (lv_at hl 0 rfl) ?_
        refine gf9_2 Z hP wd_1_23 dX9_day_78 ?_
        refine gf5_1N Z hP ck_11 nf_9 dX9_day_81 ?_
        refine lv_iload hx hb dX9_day_84 (lv_at hl 4 rfl) ?_
        obtain ⟨hi11, hF⟩ := ck_ok hF
        refine ra_ld Z hP (ia_5_1 ck_11) hi11 dX9_day_86 ?_
        refine lv_aload_n hx hb dX9_day_87 rfl (lv_at hl 0 rfl) ?_
        refine gf9_2 Z hP wd_1_23 dX9_day_88 ?_
        refine gf5_2N Z hP ck_11 nf_10 dX9_day_91 ?_
        refine lv_iload hx hb dX9_day_94 (lv_at hl 4 rfl) ?_
        obtain ⟨hi12, hF⟩ := ck_ok hF
        refine ra_ld Z hP (ia_5_2 ck_11) hi12 dX9_day_96 ?_
        obtain ⟨q13, hq13, hF⟩ := bd_ok hF
        refine xX4_follow Z hP hS ck_92 ck_6 ck_84 ck_11 hq13 wd_20_22 hl.1 (Nat.le_of_ble_eq_true rfl) ⟨Nat.le_of_ble_eq_true rfl, Nat.le_of_ble_eq_true rfl⟩ dX9_day_97 (fun H locs hP hS => ?_)
        refine lv_iload hx hb dX9_day_100 (lv_at hl 2 rfl) ?_
        refine lv_aload_n hx hb dX9_day_102 rfl (lv_at hl 0 rfl) ?_
        refine gf9_13 Z hP wd_3_0 dX9_day_103 ?_
        obtain ⟨q14, hq14, hF⟩ := bd_ok hF
        refine xX4_isGone Z hP hS ck_92 hq14 wd_26_10 hl.1 (Nat.le_of_ble_eq_true rfl) ⟨Nat.le_of_ble_eq_true rfl, Nat.le_of_ble_eq_true rfl⟩ dX9_day_106 (fun H locs hP hS => ?_)
        refine lv_if_eq (tgt := 116) hx hb dX9_day_109 rfl (fun hc => ?_) (fun hc => ?_)
        · have hF := (if_pos hc).symm.trans hF
          refine lv_iconst (v := (0 : Int32)) hx hb dX9_day_116 ic_0 ?_
          exact hb117 _ _ _ _ _ hF _ _ _ (lv_sub hl [0, 1, 3, 4] rfl) hP hS
        · have hF := (if_neg hc).symm.trans hF
          refine lv_iconst (v := (1 : Int32)) hx hb dX9_day_112 ic_1 ?_
          refine lv_goto (tgt := 117) hx hb dX9_day_113 rfl ?_
          exact hb117 _ _ _ _ _ hF _ _ _ (lv_sub hl [0, 1, 3, 4] rfl) hP hS
  refine lv_iload_n hx hb dX9_day_0 rfl (lv_at hl 2 rfl) ?_
  refine lv_bipush (v := (9 : Int32)) hx hb dX9_day_1 bp_9 ?_
  obtain ⟨q15, hq15, hF⟩ := bd_ok hF
  refine xX9_in Z hP hS hq15 wd_7_7 hl.1 (Nat.le_of_ble_eq_true rfl) ⟨Nat.le_of_ble_eq_true rfl, Nat.le_of_ble_eq_true rfl⟩ dX9_day_3 (fun H locs hP hS => ?_)
  refine lv_if_eq (tgt := 17) hx hb dX9_day_6 rfl (fun hc => ?_) (fun hc => ?_)
  · have hF := (if_pos hc).symm.trans hF
    refine lv_bipush (v := (-2 : Int32)) hx hb dX9_day_17 bp_m2 ?_
    exact ret_IWC Z hr hlk hP hS hF dX9_day_19
  · have hF := (if_neg hc).symm.trans hF
    refine lv_iload_n hx hb dX9_day_9 rfl (lv_at hl 3 rfl) ?_
    refine lv_iconst (v := (2 : Int32)) hx hb dX9_day_10 ic_2 ?_
    obtain ⟨q16, hq16, hF⟩ := bd_ok hF
    refine xX9_in Z hP hS hq16 wd_7_7 hl.1 (Nat.le_of_ble_eq_true rfl) ⟨Nat.le_of_ble_eq_true rfl, Nat.le_of_ble_eq_true rfl⟩ dX9_day_11 (fun H locs hP hS => ?_)
    refine lv_if_ne (tgt := 20) hx hb dX9_day_14 rfl (fun hc => ?_) (fun hc => ?_)
    · have hF := (if_neg hc).symm.trans hF
      refine lv_aload_n hx hb dX9_day_20 rfl (lv_at hl 0 rfl) ?_
      refine lv_iload_n hx hb dX9_day_21 rfl (lv_at hl 1 rfl) ?_
      refine lv_iload_n hx hb dX9_day_22 rfl (lv_at hl 2 rfl) ?_
      obtain ⟨q17, hq17, hF⟩ := bd_ok hF
      refine xX9_drawLots Z hP hS hq17 wd_38_5 hl.1 (Nat.le_of_ble_eq_true rfl) ⟨Nat.le_of_ble_eq_true rfl, Nat.le_of_ble_eq_true rfl⟩ dX9_day_23 (fun H locs hP hS => ?_)
      refine lv_aload_n hx hb dX9_day_26 rfl (lv_at hl 0 rfl) ?_
      refine gf9_11 Z hP wd_2_22 dX9_day_27 ?_
      refine lv_aload_n hx hb dX9_day_30 rfl (lv_at hl 0 rfl) ?_
      refine gf9_12 Z hP wd_2_23 dX9_day_31 ?_
      refine lv_iconst (v := (-1 : Int32)) hx hb dX9_day_34 ic_m1 ?_
      obtain ⟨q18, hq18, hF⟩ := bd_ok hF
      refine xX3_fill Z hP hS ck_84 ck_88 hq18 wd_20_14 hl.1 (Nat.le_of_ble_eq_true rfl) ⟨Nat.le_of_ble_eq_true rfl, Nat.le_of_ble_eq_true rfl⟩ dX9_day_35 (fun H locs hP hS => ?_)
      refine lv_iconst (v := (0 : Int32)) hx hb dX9_day_38 ic_0 ?_
      refine lv_istore (lv' := [(4, .int (0 : Int32)), (0, .ref (g.1 0)), (1, .int v1), (2, .int v2), (3, .int v3)]) hx hb dX9_day_39 hl (Nat.le_of_ble_eq_true rfl) rfl (fun ls hl => ?_)
      refine lv_iconst (v := (0 : Int32)) hx hb dX9_day_41 ic_0 ?_
      refine lv_istore (lv' := [(5, .int (0 : Int32)), (4, .int (0 : Int32)), (0, .ref (g.1 0)), (1, .int v1), (2, .int v2), (3, .int v3)]) hx hb dX9_day_42 hl (Nat.le_of_ble_eq_true rfl) rfl (fun ls hl => ?_)
      refine lv_iconst (v := (0 : Int32)) hx hb dX9_day_44 ic_0 ?_
      refine lv_istore (lv' := [(6, .int (0 : Int32)), (5, .int (0 : Int32)), (4, .int (0 : Int32)), (0, .ref (g.1 0)), (1, .int v1), (2, .int v2), (3, .int v3)]) hx hb dX9_day_45 hl (Nat.le_of_ble_eq_true rfl) rfl (fun ls hl => ?_)
      exact (hL47 _ hb153 FU) _ _ _ _ hF _ _ _ (lv_sub hl [3, 6, 2, 1, 0] rfl) hP hS
    · have hF := (if_pos hc).symm.trans hF
      refine lv_bipush (v := (-2 : Int32)) hx hb dX9_day_17 bp_m2 ?_
      exact ret_IWC Z hr hlk hP hS hF dX9_day_19
theorem xX9_day {p : Program} {l : Launch} {e : Env} {R : Room} {s : State} {m : MethodId} {args : Array Value} {below : List Frame} {meth : Method} {c : Code} {H : Heap} {locs : List Loc} {Q : State → Prop} {cc : ByteArray} {nL : Nat} {own : String} {g : GG} {pc index : Nat} {ls : Array Slot} {rest : List Value} {mc mm : Mem} (Z : ZZ p s m args c cc nL own g) (hP : va_P g.2.2.1 vwCl (wL g mc mm) H) (hS : va_S (AA g s.heap.size) s.heap H locs) {v1 : Int32} {v2 : Int32} {v3 : Int32} {q : Int32 × Mem} (hq : F9_day v1 v2 v3 mc = some q) (hlk : Cond.methodLink own index yX9_day ∈ wsL_law) (hsz : ls.size = nL) (hro : (rest.map fun v => v.category).sum ≤ 8) (hR : 2 + 1 ≤ R.frames ∧ 8 + (7 + 11) + 56 ≤ R.locals) (hdg : decode cc pc = .ok (.invokevirtual index, 3)) (kk : ∀ (H : Heap) (locs : List Loc), va_P g.2.2.1 vwCl (wL g q.2 mm) H → va_S (AA g s.heap.size) s.heap H locs → W p l e R s m args below meth c H locs 0 0 Q (F0 m (pc + 3) ls (.int q.1 :: rest))) : W p l e R s m args below meth c H locs 0 0 Q (F0 m pc ls (.int v3 :: .int v2 :: .int v1 :: .ref (g.1 0) :: rest)) :=
  x_VI Z hP hS (kX9_day l g v1 v2 v3 mc mm q hq) (isO_w ck_0) (ci := 9) (by decide) rfl rfl mf_X9_day mv_X9_day hlk rfl rfl hsz hro hR hdg kk
theorem dX9_sheet_0 : decode cX9_sheet 0 = .ok (.iload_n 1, 1) := by decide +kernel
theorem dX9_sheet_1 : decode cX9_sheet 1 = .ok (.iconst 4, 1) := by decide +kernel
theorem dX9_sheet_2 : decode cX9_sheet 2 = .ok (.invokestatic 101, 3) := by decide +kernel
theorem dX9_sheet_5 : decode cX9_sheet 5 = .ok (.ifCond .eq 17, 3) := by decide +kernel
theorem dX9_sheet_8 : decode cX9_sheet 8 = .ok (.iload_n 2, 1) := by decide +kernel
theorem dX9_sheet_9 : decode cX9_sheet 9 = .ok (.iconst 3, 1) := by decide +kernel
theorem dX9_sheet_10 : decode cX9_sheet 10 = .ok (.invokestatic 101, 3) := by decide +kernel
theorem dX9_sheet_13 : decode cX9_sheet 13 = .ok (.ifCond .eq 9, 3) := by decide +kernel
theorem dX9_sheet_16 : decode cX9_sheet 16 = .ok (.iload_n 3, 1) := by decide +kernel
theorem dX9_sheet_17 : decode cX9_sheet 17 = .ok (.bipush 60, 2) := by decide +kernel
theorem dX9_sheet_19 : decode cX9_sheet 19 = .ok (.if_icmp .le 6, 3) := by decide +kernel
theorem dX9_sheet_22 : decode cX9_sheet 22 = .ok (.bipush (-2), 2) := by decide +kernel
theorem dX9_sheet_24 : decode cX9_sheet 24 = .ok (.ireturn, 1) := by decide +kernel
theorem dX9_sheet_25 : decode cX9_sheet 25 = .ok (.iload_n 3, 1) := by decide +kernel
theorem dX9_sheet_26 : decode cX9_sheet 26 = .ok (.ifCond .ge 9, 3) := by decide +kernel
theorem dX9_sheet_29 : decode cX9_sheet 29 = .ok (.aload_n 0, 1) := by decide +kernel
theorem dX9_sheet_30 : decode cX9_sheet 30 = .ok (.iconst 5, 1) := by decide +kernel
theorem dX9_sheet_31 : decode cX9_sheet 31 = .ok (.invokevirtual 165, 3) := by decide +kernel
theorem dX9_sheet_34 : decode cX9_sheet 34 = .ok (.ireturn, 1) := by decide +kernel
theorem dX9_sheet_35 : decode cX9_sheet 35 = .ok (.aload_n 0, 1) := by decide +kernel
theorem dX9_sheet_36 : decode cX9_sheet 36 = .ok (.getfield 49, 3) := by decide +kernel
theorem dX9_sheet_39 : decode cX9_sheet 39 = .ok (.iload_n 1, 1) := by decide +kernel
theorem dX9_sheet_40 : decode cX9_sheet 40 = .ok (.aaload, 1) := by decide +kernel
theorem dX9_sheet_41 : decode cX9_sheet 41 = .ok (.iload_n 2, 1) := by decide +kernel
theorem dX9_sheet_42 : decode cX9_sheet 42 = .ok (.iload_n 3, 1) := by decide +kernel
theorem dX9_sheet_43 : decode cX9_sheet 43 = .ok (.invokevirtual 273, 3) := by decide +kernel
theorem dX9_sheet_46 : decode cX9_sheet 46 = .ok (.iload_n 3, 1) := by decide +kernel
theorem dX9_sheet_47 : decode cX9_sheet 47 = .ok (.ireturn, 1) := by decide +kernel
noncomputable def F9_sheet (v1 : Int32) (v2 : Int32) (v3 : Int32) (mc : Mem) : Option (Int32 × Mem) :=
  ((F9_in v1 (4 : Int32)).bind (fun q6 => (if q6 = (0 : Int32) then some ((-2 : Int32), mc) else ((F9_in v2 (3 : Int32)).bind (fun q7 => (if q7 = (0 : Int32) then some ((-2 : Int32), mc) else (if v3 ≤ (60 : Int32) then (if (0 : Int32) ≤ v3 then (ck v1 4 ((F6_renew (26 + 2 * v1.toNatClampNeg) v2 v3 mc).bind (fun q9 => (some (v3, q9))))) else ((F9_finding (5 : Int32) mc).bind (fun q10 => (some (q10.1, q10.2))))) else some ((-2 : Int32), mc))))))))
set_option maxHeartbeats 4000000 in
set_option maxRecDepth 100000 in
theorem kX9_sheet (l : Launch) (g : GG) (v1 : Int32) (v2 : Int32) (v3 : Int32) (mc mm : Mem) (q : Int32 × Mem) (hF : F9_sheet v1 v2 v3 mc = some q) : KI l yX9_sheet cX9_sheet 4 .int 2 45 g [.ref (g.1 0), .int v1, .int v2, .int v3] mc mm q.1 (q.2, mm) := by
  intro sz
  refine x_start (Qc := fun z => QI g z q.1 (q.2, mm)) (by decide +kernel) (Nat.le_of_ble_eq_true rfl) ?_ sz
  intro p e s m args below meth c ls Z hr hlk hP hl
  have hx := Z.1.1
  have hb := Z.1.2.1
  have hown := Z.1.2.2.2.1
  have hts := Z.1.2.2.2.2
  have hS : va_S (AA g s.heap.size) s.heap s.heap [] := va_S.rf
  have hl : lv_has ls 4 [(0, .ref (g.1 0)), (1, .int v1), (2, .int v2), (3, .int v3)] := hl
  unfold F9_sheet at hF
  refine lv_iload_n hx hb dX9_sheet_0 rfl (lv_at hl 1 rfl) ?_
  refine lv_iconst (v := (4 : Int32)) hx hb dX9_sheet_1 ic_4 ?_
  obtain ⟨q6, hq6, hF⟩ := bd_ok hF
  refine xX9_in Z hP hS hq6 wd_7_7 hl.1 (Nat.le_of_ble_eq_true rfl) ⟨Nat.le_of_ble_eq_true rfl, Nat.le_of_ble_eq_true rfl⟩ dX9_sheet_2 (fun H locs hP hS => ?_)
  refine lv_if_eq (tgt := 22) hx hb dX9_sheet_5 rfl (fun hc => ?_) (fun hc => ?_)
  · have hF := (if_pos hc).symm.trans hF
    refine lv_bipush (v := (-2 : Int32)) hx hb dX9_sheet_22 bp_m2 ?_
    exact ret_IWC Z hr hlk hP hS hF dX9_sheet_24
  · have hF := (if_neg hc).symm.trans hF
    refine lv_iload_n hx hb dX9_sheet_8 rfl (lv_at hl 2 rfl) ?_
    refine lv_iconst (v := (3 : Int32)) hx hb dX9_sheet_9 ic_3 ?_
    obtain ⟨q7, hq7, hF⟩ := bd_ok hF
    refine xX9_in Z hP hS hq7 wd_7_7 hl.1 (Nat.le_of_ble_eq_true rfl) ⟨Nat.le_of_ble_eq_true rfl, Nat.le_of_ble_eq_true rfl⟩ dX9_sheet_10 (fun H locs hP hS => ?_)
    refine lv_if_eq (tgt := 22) hx hb dX9_sheet_13 rfl (fun hc => ?_) (fun hc => ?_)
    · have hF := (if_pos hc).symm.trans hF
      refine lv_bipush (v := (-2 : Int32)) hx hb dX9_sheet_22 bp_m2 ?_
      exact ret_IWC Z hr hlk hP hS hF dX9_sheet_24
    · have hF := (if_neg hc).symm.trans hF
      refine lv_iload_n hx hb dX9_sheet_16 rfl (lv_at hl 3 rfl) ?_
      refine lv_bipush (v := (60 : Int32)) hx hb dX9_sheet_17 bp_60 ?_
      refine lv_icmp_le (tgt := 25) hx hb dX9_sheet_19 rfl (fun hc => ?_) (fun hc => ?_)
      · have hF := (if_pos hc).symm.trans hF
        refine lv_iload_n hx hb dX9_sheet_25 rfl (lv_at hl 3 rfl) ?_
        refine lv_if_ge (tgt := 35) hx hb dX9_sheet_26 rfl (fun hc => ?_) (fun hc => ?_)
        · have hF := (if_pos hc).symm.trans hF
          refine lv_aload_n hx hb dX9_sheet_35 rfl (lv_at hl 0 rfl) ?_
          refine gf9_5 Z hP wd_2_11 dX9_sheet_36 ?_
          refine lv_iload_n hx hb dX9_sheet_39 rfl (lv_at hl 1 rfl) ?_
          obtain ⟨hi8, hF⟩ := ck_ok hF
          refine rq_23 Z hP hi8 dX9_sheet_40 ?_
          refine lv_iload_n hx hb dX9_sheet_41 rfl (lv_at hl 2 rfl) ?_
          refine lv_iload_n hx hb dX9_sheet_42 rfl (lv_at hl 3 rfl) ?_
          obtain ⟨q9, hq9, hF⟩ := bd_ok hF
          refine xX6_renew Z hP hS (ir_23 hi8) hq9 wd_39_11 hl.1 (Nat.le_of_ble_eq_true rfl) ⟨Nat.le_of_ble_eq_true rfl, Nat.le_of_ble_eq_true rfl⟩ dX9_sheet_43 (fun H locs hP hS => ?_)
          refine lv_iload_n hx hb dX9_sheet_46 rfl (lv_at hl 3 rfl) ?_
          exact ret_IWC Z hr hlk hP hS hF dX9_sheet_47
        · have hF := (if_neg hc).symm.trans hF
          refine lv_aload_n hx hb dX9_sheet_29 rfl (lv_at hl 0 rfl) ?_
          refine lv_iconst (v := (5 : Int32)) hx hb dX9_sheet_30 ic_5 ?_
          obtain ⟨q10, hq10, hF⟩ := bd_ok hF
          refine xX9_finding Z hP hS hq10 wd_19_8 hl.1 (Nat.le_of_ble_eq_true rfl) ⟨Nat.le_of_ble_eq_true rfl, Nat.le_of_ble_eq_true rfl⟩ dX9_sheet_31 (fun H locs hP hS => ?_)
          exact ret_IWC Z hr hlk hP hS hF dX9_sheet_34
      · have hF := (if_neg hc).symm.trans hF
        refine lv_bipush (v := (-2 : Int32)) hx hb dX9_sheet_22 bp_m2 ?_
        exact ret_IWC Z hr hlk hP hS hF dX9_sheet_24
theorem xX9_sheet {p : Program} {l : Launch} {e : Env} {R : Room} {s : State} {m : MethodId} {args : Array Value} {below : List Frame} {meth : Method} {c : Code} {H : Heap} {locs : List Loc} {Q : State → Prop} {cc : ByteArray} {nL : Nat} {own : String} {g : GG} {pc index : Nat} {ls : Array Slot} {rest : List Value} {mc mm : Mem} (Z : ZZ p s m args c cc nL own g) (hP : va_P g.2.2.1 vwCl (wL g mc mm) H) (hS : va_S (AA g s.heap.size) s.heap H locs) {v1 : Int32} {v2 : Int32} {v3 : Int32} {q : Int32 × Mem} (hq : F9_sheet v1 v2 v3 mc = some q) (hlk : Cond.methodLink own index yX9_sheet ∈ wsL_law) (hsz : ls.size = nL) (hro : (rest.map fun v => v.category).sum ≤ 8) (hR : 2 + 1 ≤ R.frames ∧ 8 + (4 + 11) + 45 ≤ R.locals) (hdg : decode cc pc = .ok (.invokevirtual index, 3)) (kk : ∀ (H : Heap) (locs : List Loc), va_P g.2.2.1 vwCl (wL g q.2 mm) H → va_S (AA g s.heap.size) s.heap H locs → W p l e R s m args below meth c H locs 0 0 Q (F0 m (pc + 3) ls (.int q.1 :: rest))) : W p l e R s m args below meth c H locs 0 0 Q (F0 m pc ls (.int v3 :: .int v2 :: .int v1 :: .ref (g.1 0) :: rest)) :=
  x_VI Z hP hS (kX9_sheet l g v1 v2 v3 mc mm q hq) (isO_w ck_0) (ci := 9) (by decide) rfl rfl mf_X9_sheet mv_X9_sheet hlk rfl rfl hsz hro hR hdg kk
theorem dX9_lose_0 : decode cX9_lose 0 = .ok (.iload_n 1, 1) := by decide +kernel
theorem dX9_lose_1 : decode cX9_lose 1 = .ok (.iconst 4, 1) := by decide +kernel
theorem dX9_lose_2 : decode cX9_lose 2 = .ok (.invokestatic 101, 3) := by decide +kernel
theorem dX9_lose_5 : decode cX9_lose 5 = .ok (.ifCond .ne 6, 3) := by decide +kernel
theorem dX9_lose_8 : decode cX9_lose 8 = .ok (.bipush (-2), 2) := by decide +kernel
theorem dX9_lose_10 : decode cX9_lose 10 = .ok (.ireturn, 1) := by decide +kernel
theorem dX9_lose_11 : decode cX9_lose 11 = .ok (.aload_n 0, 1) := by decide +kernel
theorem dX9_lose_12 : decode cX9_lose 12 = .ok (.getfield 49, 3) := by decide +kernel
theorem dX9_lose_15 : decode cX9_lose 15 = .ok (.iload_n 1, 1) := by decide +kernel
theorem dX9_lose_16 : decode cX9_lose 16 = .ok (.aaload, 1) := by decide +kernel
theorem dX9_lose_17 : decode cX9_lose 17 = .ok (.invokevirtual 161, 3) := by decide +kernel
theorem dX9_lose_20 : decode cX9_lose 20 = .ok (.ifCond .eq 9, 3) := by decide +kernel
theorem dX9_lose_23 : decode cX9_lose 23 = .ok (.aload_n 0, 1) := by decide +kernel
theorem dX9_lose_24 : decode cX9_lose 24 = .ok (.iconst 1, 1) := by decide +kernel
theorem dX9_lose_25 : decode cX9_lose 25 = .ok (.invokevirtual 165, 3) := by decide +kernel
theorem dX9_lose_28 : decode cX9_lose 28 = .ok (.ireturn, 1) := by decide +kernel
theorem dX9_lose_29 : decode cX9_lose 29 = .ok (.aload_n 0, 1) := by decide +kernel
theorem dX9_lose_30 : decode cX9_lose 30 = .ok (.getfield 49, 3) := by decide +kernel
theorem dX9_lose_33 : decode cX9_lose 33 = .ok (.iload_n 1, 1) := by decide +kernel
theorem dX9_lose_34 : decode cX9_lose 34 = .ok (.aaload, 1) := by decide +kernel
theorem dX9_lose_35 : decode cX9_lose 35 = .ok (.getfield 276, 3) := by decide +kernel
theorem dX9_lose_38 : decode cX9_lose 38 = .ok (.istore_n 2, 1) := by decide +kernel
theorem dX9_lose_39 : decode cX9_lose 39 = .ok (.aload_n 0, 1) := by decide +kernel
theorem dX9_lose_40 : decode cX9_lose 40 = .ok (.getfield 49, 3) := by decide +kernel
theorem dX9_lose_43 : decode cX9_lose 43 = .ok (.iload_n 1, 1) := by decide +kernel
theorem dX9_lose_44 : decode cX9_lose 44 = .ok (.aaload, 1) := by decide +kernel
theorem dX9_lose_45 : decode cX9_lose 45 = .ok (.iconst (-1), 1) := by decide +kernel
theorem dX9_lose_46 : decode cX9_lose 46 = .ok (.iconst 0, 1) := by decide +kernel
theorem dX9_lose_47 : decode cX9_lose 47 = .ok (.invokevirtual 273, 3) := by decide +kernel
theorem dX9_lose_50 : decode cX9_lose 50 = .ok (.iload_n 2, 1) := by decide +kernel
theorem dX9_lose_51 : decode cX9_lose 51 = .ok (.ireturn, 1) := by decide +kernel
noncomputable def F9_lose (v1 : Int32) (mc : Mem) : Option (Int32 × Mem) :=
  ((F9_in v1 (4 : Int32)).bind (fun q8 => (if q8 = (0 : Int32) then some ((-2 : Int32), mc) else (ck v1 4 ((F6_isLost (26 + 2 * v1.toNatClampNeg) mc).bind (fun q10 => (if q10 = (0 : Int32) then (ck v1 4 (ck v1 4 ((F6_renew (26 + 2 * v1.toNatClampNeg) (-1 : Int32) (0 : Int32) mc).bind (fun q13 => (some ((mc (26 + 2 * v1.toNatClampNeg) 2), q13)))))) else ((F9_finding (1 : Int32) mc).bind (fun q14 => (some (q14.1, q14.2)))))))))))
set_option maxHeartbeats 4000000 in
set_option maxRecDepth 100000 in
theorem kX9_lose (l : Launch) (g : GG) (v1 : Int32) (mc mm : Mem) (q : Int32 × Mem) (hF : F9_lose v1 mc = some q) : KI l yX9_lose cX9_lose 3 .int 2 45 g [.ref (g.1 0), .int v1] mc mm q.1 (q.2, mm) := by
  intro sz
  refine x_start (Qc := fun z => QI g z q.1 (q.2, mm)) (by decide +kernel) (Nat.le_of_ble_eq_true rfl) ?_ sz
  intro p e s m args below meth c ls Z hr hlk hP hl
  have hx := Z.1.1
  have hb := Z.1.2.1
  have hown := Z.1.2.2.2.1
  have hts := Z.1.2.2.2.2
  have hS : va_S (AA g s.heap.size) s.heap s.heap [] := va_S.rf
  have hl : lv_has ls 3 [(0, .ref (g.1 0)), (1, .int v1)] := hl
  unfold F9_lose at hF
  refine lv_iload_n hx hb dX9_lose_0 rfl (lv_at hl 1 rfl) ?_
  refine lv_iconst (v := (4 : Int32)) hx hb dX9_lose_1 ic_4 ?_
  obtain ⟨q8, hq8, hF⟩ := bd_ok hF
  refine xX9_in Z hP hS hq8 wd_7_7 hl.1 (Nat.le_of_ble_eq_true rfl) ⟨Nat.le_of_ble_eq_true rfl, Nat.le_of_ble_eq_true rfl⟩ dX9_lose_2 (fun H locs hP hS => ?_)
  refine lv_if_ne (tgt := 11) hx hb dX9_lose_5 rfl (fun hc => ?_) (fun hc => ?_)
  · have hF := (if_neg hc).symm.trans hF
    refine lv_aload_n hx hb dX9_lose_11 rfl (lv_at hl 0 rfl) ?_
    refine gf9_5 Z hP wd_2_11 dX9_lose_12 ?_
    refine lv_iload_n hx hb dX9_lose_15 rfl (lv_at hl 1 rfl) ?_
    obtain ⟨hi9, hF⟩ := ck_ok hF
    refine rq_23 Z hP hi9 dX9_lose_16 ?_
    obtain ⟨q10, hq10, hF⟩ := bd_ok hF
    refine xX6_isLost Z hP hS (ir_23 hi9) hq10 wd_19_4 hl.1 (Nat.le_of_ble_eq_true rfl) ⟨Nat.le_of_ble_eq_true rfl, Nat.le_of_ble_eq_true rfl⟩ dX9_lose_17 (fun H locs hP hS => ?_)
    refine lv_if_eq (tgt := 29) hx hb dX9_lose_20 rfl (fun hc => ?_) (fun hc => ?_)
    · have hF := (if_pos hc).symm.trans hF
      refine lv_aload_n hx hb dX9_lose_29 rfl (lv_at hl 0 rfl) ?_
      refine gf9_5 Z hP wd_2_11 dX9_lose_30 ?_
      refine lv_iload_n hx hb dX9_lose_33 rfl (lv_at hl 1 rfl) ?_
      obtain ⟨hi11, hF⟩ := ck_ok hF
      refine rq_23 Z hP hi11 dX9_lose_34 ?_
      refine gf6_2N Z hP (ir_23 hi11) nf_22 dX9_lose_35 ?_
      refine lv_istore_n (lv' := [(2, .int (mc (26 + 2 * v1.toNatClampNeg) 2)), (0, .ref (g.1 0)), (1, .int v1)]) hx hb dX9_lose_38 rfl hl (Nat.le_of_ble_eq_true rfl) rfl (fun ls hl => ?_)
      refine lv_aload_n hx hb dX9_lose_39 rfl (lv_at hl 1 rfl) ?_
      refine gf9_5 Z hP wd_2_11 dX9_lose_40 ?_
      refine lv_iload_n hx hb dX9_lose_43 rfl (lv_at hl 2 rfl) ?_
      obtain ⟨hi12, hF⟩ := ck_ok hF
      refine rq_23 Z hP hi12 dX9_lose_44 ?_
      refine lv_iconst (v := (-1 : Int32)) hx hb dX9_lose_45 ic_m1 ?_
      refine lv_iconst (v := (0 : Int32)) hx hb dX9_lose_46 ic_0 ?_
      obtain ⟨q13, hq13, hF⟩ := bd_ok hF
      refine xX6_renew Z hP hS (ir_23 hi12) hq13 wd_39_11 hl.1 (Nat.le_of_ble_eq_true rfl) ⟨Nat.le_of_ble_eq_true rfl, Nat.le_of_ble_eq_true rfl⟩ dX9_lose_47 (fun H locs hP hS => ?_)
      refine lv_iload_n hx hb dX9_lose_50 rfl (lv_at hl 0 rfl) ?_
      exact ret_IWC Z hr hlk hP hS hF dX9_lose_51
    · have hF := (if_neg hc).symm.trans hF
      refine lv_aload_n hx hb dX9_lose_23 rfl (lv_at hl 0 rfl) ?_
      refine lv_iconst (v := (1 : Int32)) hx hb dX9_lose_24 ic_1 ?_
      obtain ⟨q14, hq14, hF⟩ := bd_ok hF
      refine xX9_finding Z hP hS hq14 wd_19_8 hl.1 (Nat.le_of_ble_eq_true rfl) ⟨Nat.le_of_ble_eq_true rfl, Nat.le_of_ble_eq_true rfl⟩ dX9_lose_25 (fun H locs hP hS => ?_)
      exact ret_IWC Z hr hlk hP hS hF dX9_lose_28
  · have hF := (if_pos hc).symm.trans hF
    refine lv_bipush (v := (-2 : Int32)) hx hb dX9_lose_8 bp_m2 ?_
    exact ret_IWC Z hr hlk hP hS hF dX9_lose_10
theorem xX9_lose {p : Program} {l : Launch} {e : Env} {R : Room} {s : State} {m : MethodId} {args : Array Value} {below : List Frame} {meth : Method} {c : Code} {H : Heap} {locs : List Loc} {Q : State → Prop} {cc : ByteArray} {nL : Nat} {own : String} {g : GG} {pc index : Nat} {ls : Array Slot} {rest : List Value} {mc mm : Mem} (Z : ZZ p s m args c cc nL own g) (hP : va_P g.2.2.1 vwCl (wL g mc mm) H) (hS : va_S (AA g s.heap.size) s.heap H locs) {v1 : Int32} {q : Int32 × Mem} (hq : F9_lose v1 mc = some q) (hlk : Cond.methodLink own index yX9_lose ∈ wsL_law) (hsz : ls.size = nL) (hro : (rest.map fun v => v.category).sum ≤ 8) (hR : 2 + 1 ≤ R.frames ∧ 8 + (3 + 11) + 45 ≤ R.locals) (hdg : decode cc pc = .ok (.invokevirtual index, 3)) (kk : ∀ (H : Heap) (locs : List Loc), va_P g.2.2.1 vwCl (wL g q.2 mm) H → va_S (AA g s.heap.size) s.heap H locs → W p l e R s m args below meth c H locs 0 0 Q (F0 m (pc + 3) ls (.int q.1 :: rest))) : W p l e R s m args below meth c H locs 0 0 Q (F0 m pc ls (.int v1 :: .ref (g.1 0) :: rest)) :=
  x_VI Z hP hS (kX9_lose l g v1 mc mm q hq) (isO_w ck_0) (ci := 9) (by decide) rfl rfl mf_X9_lose mv_X9_lose hlk rfl rfl hsz hro hR hdg kk
theorem dX9_itemFinding_0 : decode cX9_itemFinding 0 = .ok (.aload_n 0, 1) := by decide +kernel
theorem dX9_itemFinding_1 : decode cX9_itemFinding 1 = .ok (.invokevirtual 161, 3) := by decide +kernel
theorem dX9_itemFinding_4 : decode cX9_itemFinding 4 = .ok (.ifCond .eq 5, 3) := by decide +kernel
theorem dX9_itemFinding_7 : decode cX9_itemFinding 7 = .ok (.iconst 1, 1) := by decide +kernel
theorem dX9_itemFinding_8 : decode cX9_itemFinding 8 = .ok (.ireturn, 1) := by decide +kernel
theorem dX9_itemFinding_9 : decode cX9_itemFinding 9 = .ok (.aload_n 0, 1) := by decide +kernel
theorem dX9_itemFinding_10 : decode cX9_itemFinding 10 = .ok (.getfield 289, 3) := by decide +kernel
theorem dX9_itemFinding_13 : decode cX9_itemFinding 13 = .ok (.iload_n 1, 1) := by decide +kernel
theorem dX9_itemFinding_14 : decode cX9_itemFinding 14 = .ok (.if_icmp .eq 5, 3) := by decide +kernel
theorem dX9_itemFinding_17 : decode cX9_itemFinding 17 = .ok (.iconst 3, 1) := by decide +kernel
theorem dX9_itemFinding_18 : decode cX9_itemFinding 18 = .ok (.ireturn, 1) := by decide +kernel
theorem dX9_itemFinding_19 : decode cX9_itemFinding 19 = .ok (.iload_n 2, 1) := by decide +kernel
theorem dX9_itemFinding_20 : decode cX9_itemFinding 20 = .ok (.aload_n 0, 1) := by decide +kernel
theorem dX9_itemFinding_21 : decode cX9_itemFinding 21 = .ok (.getfield 276, 3) := by decide +kernel
theorem dX9_itemFinding_24 : decode cX9_itemFinding 24 = .ok (.invokestatic 101, 3) := by decide +kernel
theorem dX9_itemFinding_27 : decode cX9_itemFinding 27 = .ok (.ifCond .eq 7, 3) := by decide +kernel
theorem dX9_itemFinding_30 : decode cX9_itemFinding 30 = .ok (.iconst 0, 1) := by decide +kernel
theorem dX9_itemFinding_31 : decode cX9_itemFinding 31 = .ok (.goto 4, 3) := by decide +kernel
theorem dX9_itemFinding_34 : decode cX9_itemFinding 34 = .ok (.iconst 2, 1) := by decide +kernel
theorem dX9_itemFinding_35 : decode cX9_itemFinding 35 = .ok (.ireturn, 1) := by decide +kernel
noncomputable def F9_itemFinding (v0 : Nat) (v1 : Int32) (v2 : Int32) (mc : Mem) : Option (Int32) :=
  ((F6_isLost v0 mc).bind (fun q3 => (if q3 = (0 : Int32) then (if (mc v0 1) = v1 then ((F9_in v2 (mc v0 2)).bind (fun q4 => (if q4 = (0 : Int32) then some (2 : Int32) else some (0 : Int32)))) else some (3 : Int32)) else some (1 : Int32))))
set_option maxHeartbeats 4000000 in
set_option maxRecDepth 100000 in
theorem kX9_itemFinding (l : Launch) (g : GG) (v0 : Nat) (v1 : Int32) (v2 : Int32) (h0 : isO 6 v0) (mc mm : Mem) (q : Int32) (hF : F9_itemFinding v0 v1 v2 mc = some q) : KI l yX9_itemFinding cX9_itemFinding 3 .int 1 21 g [.ref (g.1 v0), .int v1, .int v2] mc mm q (mc, mm) := by
  intro sz
  refine x_start (Qc := fun z => QI g z q (mc, mm)) (by decide +kernel) (Nat.le_of_ble_eq_true rfl) ?_ sz
  intro p e s m args below meth c ls Z hr hlk hP hl
  have hx := Z.1.1
  have hb := Z.1.2.1
  have hown := Z.1.2.2.2.1
  have hts := Z.1.2.2.2.2
  have hS : va_S (AA g s.heap.size) s.heap s.heap [] := va_S.rf
  have hl : lv_has ls 3 [(0, .ref (g.1 v0)), (1, .int v1), (2, .int v2)] := hl
  unfold F9_itemFinding at hF
  refine lv_aload_n hx hb dX9_itemFinding_0 rfl (lv_at hl 0 rfl) ?_
  obtain ⟨q3, hq3, hF⟩ := bd_ok hF
  refine xX6_isLost Z hP hS h0 hq3 wd_19_4 hl.1 (Nat.le_of_ble_eq_true rfl) ⟨Nat.le_of_ble_eq_true rfl, Nat.le_of_ble_eq_true rfl⟩ dX9_itemFinding_1 (fun H locs hP hS => ?_)
  refine lv_if_eq (tgt := 9) hx hb dX9_itemFinding_4 rfl (fun hc => ?_) (fun hc => ?_)
  · have hF := (if_pos hc).symm.trans hF
    refine lv_aload_n hx hb dX9_itemFinding_9 rfl (lv_at hl 0 rfl) ?_
    refine gf6_1N Z hP h0 nf_24 dX9_itemFinding_10 ?_
    refine lv_iload_n hx hb dX9_itemFinding_13 rfl (lv_at hl 1 rfl) ?_
    refine lv_icmp_eq (tgt := 19) hx hb dX9_itemFinding_14 rfl (fun hc => ?_) (fun hc => ?_)
    · have hF := (if_pos hc).symm.trans hF
      refine lv_iload_n hx hb dX9_itemFinding_19 rfl (lv_at hl 2 rfl) ?_
      refine lv_aload_n hx hb dX9_itemFinding_20 rfl (lv_at hl 0 rfl) ?_
      refine gf6_2N Z hP h0 nf_22 dX9_itemFinding_21 ?_
      obtain ⟨q4, hq4, hF⟩ := bd_ok hF
      refine xX9_in Z hP hS hq4 wd_7_7 hl.1 (Nat.le_of_ble_eq_true rfl) ⟨Nat.le_of_ble_eq_true rfl, Nat.le_of_ble_eq_true rfl⟩ dX9_itemFinding_24 (fun H locs hP hS => ?_)
      refine lv_if_eq (tgt := 34) hx hb dX9_itemFinding_27 rfl (fun hc => ?_) (fun hc => ?_)
      · have hF := (if_pos hc).symm.trans hF
        refine lv_iconst (v := (2 : Int32)) hx hb dX9_itemFinding_34 ic_2 ?_
        exact ret_I Z hr hlk hP hS hF dX9_itemFinding_35
      · have hF := (if_neg hc).symm.trans hF
        refine lv_iconst (v := (0 : Int32)) hx hb dX9_itemFinding_30 ic_0 ?_
        refine lv_goto (tgt := 35) hx hb dX9_itemFinding_31 rfl ?_
        exact ret_I Z hr hlk hP hS hF dX9_itemFinding_35
    · have hF := (if_neg hc).symm.trans hF
      refine lv_iconst (v := (3 : Int32)) hx hb dX9_itemFinding_17 ic_3 ?_
      exact ret_I Z hr hlk hP hS hF dX9_itemFinding_18
  · have hF := (if_neg hc).symm.trans hF
    refine lv_iconst (v := (1 : Int32)) hx hb dX9_itemFinding_7 ic_1 ?_
    exact ret_I Z hr hlk hP hS hF dX9_itemFinding_8
theorem xX9_itemFinding {p : Program} {l : Launch} {e : Env} {R : Room} {s : State} {m : MethodId} {args : Array Value} {below : List Frame} {meth : Method} {c : Code} {H : Heap} {locs : List Loc} {Q : State → Prop} {cc : ByteArray} {nL : Nat} {own : String} {g : GG} {pc index : Nat} {ls : Array Slot} {rest : List Value} {mc mm : Mem} (Z : ZZ p s m args c cc nL own g) (hP : va_P g.2.2.1 vwCl (wL g mc mm) H) (hS : va_S (AA g s.heap.size) s.heap H locs) {v0 : Nat} {v1 : Int32} {v2 : Int32} (h0 : isO 6 v0) {q : Int32} (hq : F9_itemFinding v0 v1 v2 mc = some q) (hlk : Cond.methodLink own index yX9_itemFinding ∈ wsL_law) (hsz : ls.size = nL) (hro : (rest.map fun v => v.category).sum ≤ 8) (hR : 1 + 1 ≤ R.frames ∧ 8 + (3 + 11) + 21 ≤ R.locals) (hdg : decode cc pc = .ok (.invokestatic index, 3)) (kk : ∀ (H : Heap) (locs : List Loc), va_P g.2.2.1 vwCl (wL g mc mm) H → va_S (AA g s.heap.size) s.heap H locs → W p l e R s m args below meth c H locs 0 0 Q (F0 m (pc + 3) ls (.int q :: rest))) : W p l e R s m args below meth c H locs 0 0 Q (F0 m pc ls (.int v2 :: .int v1 :: .ref (g.1 v0) :: rest)) :=
  x_SI Z hP hS (kX9_itemFinding l g v0 v1 v2 h0 mc mm q hq) mf_X9_itemFinding wd_40_10 hlk rfl rfl hsz hro hR hdg kk
theorem dX9_lay_0 : decode cX9_lay 0 = .ok (.iload_n 1, 1) := by decide +kernel
theorem dX9_lay_1 : decode cX9_lay 1 = .ok (.iconst 4, 1) := by decide +kernel
theorem dX9_lay_2 : decode cX9_lay 2 = .ok (.invokestatic 101, 3) := by decide +kernel
theorem dX9_lay_5 : decode cX9_lay 5 = .ok (.ifCond .eq 11, 3) := by decide +kernel
theorem dX9_lay_8 : decode cX9_lay 8 = .ok (.iload_n 2, 1) := by decide +kernel
theorem dX9_lay_9 : decode cX9_lay 9 = .ok (.iconst 3, 1) := by decide +kernel
theorem dX9_lay_10 : decode cX9_lay 10 = .ok (.invokestatic 101, 3) := by decide +kernel
theorem dX9_lay_13 : decode cX9_lay 13 = .ok (.ifCond .ne 6, 3) := by decide +kernel
theorem dX9_lay_16 : decode cX9_lay 16 = .ok (.bipush (-2), 2) := by decide +kernel
theorem dX9_lay_18 : decode cX9_lay 18 = .ok (.ireturn, 1) := by decide +kernel
theorem dX9_lay_19 : decode cX9_lay 19 = .ok (.aload_n 0, 1) := by decide +kernel
theorem dX9_lay_20 : decode cX9_lay 20 = .ok (.getfield 49, 3) := by decide +kernel
theorem dX9_lay_23 : decode cX9_lay 23 = .ok (.iload_n 1, 1) := by decide +kernel
theorem dX9_lay_24 : decode cX9_lay 24 = .ok (.aaload, 1) := by decide +kernel
theorem dX9_lay_25 : decode cX9_lay 25 = .ok (.iload_n 2, 1) := by decide +kernel
theorem dX9_lay_26 : decode cX9_lay 26 = .ok (.iload_n 3, 1) := by decide +kernel
theorem dX9_lay_27 : decode cX9_lay 27 = .ok (.invokestatic 278, 3) := by decide +kernel
theorem dX9_lay_30 : decode cX9_lay 30 = .ok (.istore 5, 2) := by decide +kernel
theorem dX9_lay_32 : decode cX9_lay 32 = .ok (.iload 5, 2) := by decide +kernel
theorem dX9_lay_34 : decode cX9_lay 34 = .ok (.ifCond .eq 10, 3) := by decide +kernel
theorem dX9_lay_37 : decode cX9_lay 37 = .ok (.aload_n 0, 1) := by decide +kernel
theorem dX9_lay_38 : decode cX9_lay 38 = .ok (.iload 5, 2) := by decide +kernel
theorem dX9_lay_40 : decode cX9_lay 40 = .ok (.invokevirtual 165, 3) := by decide +kernel
theorem dX9_lay_43 : decode cX9_lay 43 = .ok (.ireturn, 1) := by decide +kernel
theorem dX9_lay_44 : decode cX9_lay 44 = .ok (.aload_n 0, 1) := by decide +kernel
theorem dX9_lay_45 : decode cX9_lay 45 = .ok (.getfield 49, 3) := by decide +kernel
theorem dX9_lay_48 : decode cX9_lay 48 = .ok (.iload_n 1, 1) := by decide +kernel
theorem dX9_lay_49 : decode cX9_lay 49 = .ok (.aaload, 1) := by decide +kernel
theorem dX9_lay_50 : decode cX9_lay 50 = .ok (.iload_n 3, 1) := by decide +kernel
theorem dX9_lay_51 : decode cX9_lay 51 = .ok (.iload 4, 2) := by decide +kernel
theorem dX9_lay_53 : decode cX9_lay 53 = .ok (.invokevirtual 282, 3) := by decide +kernel
theorem dX9_lay_56 : decode cX9_lay 56 = .ok (.iconst 1, 1) := by decide +kernel
theorem dX9_lay_57 : decode cX9_lay 57 = .ok (.ireturn, 1) := by decide +kernel
noncomputable def F9_lay (v1 : Int32) (v2 : Int32) (v3 : Int32) (v4 : Int32) (mc : Mem) : Option (Int32 × Mem) :=
  ((F9_in v1 (4 : Int32)).bind (fun q8 => (if q8 = (0 : Int32) then some ((-2 : Int32), mc) else ((F9_in v2 (3 : Int32)).bind (fun q9 => (if q9 = (0 : Int32) then some ((-2 : Int32), mc) else (ck v1 4 ((F9_itemFinding (26 + 2 * v1.toNatClampNeg) v2 v3 mc).bind (fun q11 => (if q11 = (0 : Int32) then (ck v1 4 ((F6_put (26 + 2 * v1.toNatClampNeg) v3 v4 mc).bind (fun q13 => (some ((1 : Int32), q13))))) else ((F9_finding q11 mc).bind (fun q14 => (some (q14.1, q14.2))))))))))))))
set_option maxHeartbeats 4000000 in
set_option maxRecDepth 100000 in
theorem kX9_lay (l : Launch) (g : GG) (v1 : Int32) (v2 : Int32) (v3 : Int32) (v4 : Int32) (mc mm : Mem) (q : Int32 × Mem) (hF : F9_lay v1 v2 v3 v4 mc = some q) : KI l yX9_lay cX9_lay 6 .int 2 43 g [.ref (g.1 0), .int v1, .int v2, .int v3, .int v4] mc mm q.1 (q.2, mm) := by
  intro sz
  refine x_start (Qc := fun z => QI g z q.1 (q.2, mm)) (by decide +kernel) (Nat.le_of_ble_eq_true rfl) ?_ sz
  intro p e s m args below meth c ls Z hr hlk hP hl
  have hx := Z.1.1
  have hb := Z.1.2.1
  have hown := Z.1.2.2.2.1
  have hts := Z.1.2.2.2.2
  have hS : va_S (AA g s.heap.size) s.heap s.heap [] := va_S.rf
  have hl : lv_has ls 6 [(0, .ref (g.1 0)), (1, .int v1), (2, .int v2), (3, .int v3), (4, .int v4)] := hl
  unfold F9_lay at hF
  refine lv_iload_n hx hb dX9_lay_0 rfl (lv_at hl 1 rfl) ?_
  refine lv_iconst (v := (4 : Int32)) hx hb dX9_lay_1 ic_4 ?_
  obtain ⟨q8, hq8, hF⟩ := bd_ok hF
  refine xX9_in Z hP hS hq8 wd_7_7 hl.1 (Nat.le_of_ble_eq_true rfl) ⟨Nat.le_of_ble_eq_true rfl, Nat.le_of_ble_eq_true rfl⟩ dX9_lay_2 (fun H locs hP hS => ?_)
  refine lv_if_eq (tgt := 16) hx hb dX9_lay_5 rfl (fun hc => ?_) (fun hc => ?_)
  · have hF := (if_pos hc).symm.trans hF
    refine lv_bipush (v := (-2 : Int32)) hx hb dX9_lay_16 bp_m2 ?_
    exact ret_IWC Z hr hlk hP hS hF dX9_lay_18
  · have hF := (if_neg hc).symm.trans hF
    refine lv_iload_n hx hb dX9_lay_8 rfl (lv_at hl 2 rfl) ?_
    refine lv_iconst (v := (3 : Int32)) hx hb dX9_lay_9 ic_3 ?_
    obtain ⟨q9, hq9, hF⟩ := bd_ok hF
    refine xX9_in Z hP hS hq9 wd_7_7 hl.1 (Nat.le_of_ble_eq_true rfl) ⟨Nat.le_of_ble_eq_true rfl, Nat.le_of_ble_eq_true rfl⟩ dX9_lay_10 (fun H locs hP hS => ?_)
    refine lv_if_ne (tgt := 19) hx hb dX9_lay_13 rfl (fun hc => ?_) (fun hc => ?_)
    · have hF := (if_neg hc).symm.trans hF
      refine lv_aload_n hx hb dX9_lay_19 rfl (lv_at hl 0 rfl) ?_
      refine gf9_5 Z hP wd_2_11 dX9_lay_20 ?_
      refine lv_iload_n hx hb dX9_lay_23 rfl (lv_at hl 1 rfl) ?_
      obtain ⟨hi10, hF⟩ := ck_ok hF
      refine rq_23 Z hP hi10 dX9_lay_24 ?_
      refine lv_iload_n hx hb dX9_lay_25 rfl (lv_at hl 2 rfl) ?_
      refine lv_iload_n hx hb dX9_lay_26 rfl (lv_at hl 3 rfl) ?_
      obtain ⟨q11, hq11, hF⟩ := bd_ok hF
      refine xX9_itemFinding Z hP hS (ir_23 hi10) hq11 wd_40_9 hl.1 (Nat.le_of_ble_eq_true rfl) ⟨Nat.le_of_ble_eq_true rfl, Nat.le_of_ble_eq_true rfl⟩ dX9_lay_27 (fun H locs hP hS => ?_)
      refine lv_istore (lv' := [(5, .int q11), (0, .ref (g.1 0)), (1, .int v1), (2, .int v2), (3, .int v3), (4, .int v4)]) hx hb dX9_lay_30 hl (Nat.le_of_ble_eq_true rfl) rfl (fun ls hl => ?_)
      refine lv_iload hx hb dX9_lay_32 (lv_at hl 0 rfl) ?_
      refine lv_if_eq (tgt := 44) hx hb dX9_lay_34 rfl (fun hc => ?_) (fun hc => ?_)
      · have hF := (if_pos hc).symm.trans hF
        refine lv_aload_n hx hb dX9_lay_44 rfl (lv_at hl 1 rfl) ?_
        refine gf9_5 Z hP wd_2_11 dX9_lay_45 ?_
        refine lv_iload_n hx hb dX9_lay_48 rfl (lv_at hl 2 rfl) ?_
        obtain ⟨hi12, hF⟩ := ck_ok hF
        refine rq_23 Z hP hi12 dX9_lay_49 ?_
        refine lv_iload_n hx hb dX9_lay_50 rfl (lv_at hl 4 rfl) ?_
        refine lv_iload hx hb dX9_lay_51 (lv_at hl 5 rfl) ?_
        obtain ⟨q13, hq13, hF⟩ := bd_ok hF
        refine xX6_put Z hP hS (ir_23 hi12) hq13 wd_40_12 hl.1 (Nat.le_of_ble_eq_true rfl) ⟨Nat.le_of_ble_eq_true rfl, Nat.le_of_ble_eq_true rfl⟩ dX9_lay_53 (fun H locs hP hS => ?_)
        refine lv_iconst (v := (1 : Int32)) hx hb dX9_lay_56 ic_1 ?_
        exact ret_IWC Z hr hlk hP hS hF dX9_lay_57
      · have hF := (if_neg hc).symm.trans hF
        refine lv_aload_n hx hb dX9_lay_37 rfl (lv_at hl 1 rfl) ?_
        refine lv_iload hx hb dX9_lay_38 (lv_at hl 0 rfl) ?_
        obtain ⟨q14, hq14, hF⟩ := bd_ok hF
        refine xX9_finding Z hP hS hq14 wd_19_8 hl.1 (Nat.le_of_ble_eq_true rfl) ⟨Nat.le_of_ble_eq_true rfl, Nat.le_of_ble_eq_true rfl⟩ dX9_lay_40 (fun H locs hP hS => ?_)
        exact ret_IWC Z hr hlk hP hS hF dX9_lay_43
    · have hF := (if_pos hc).symm.trans hF
      refine lv_bipush (v := (-2 : Int32)) hx hb dX9_lay_16 bp_m2 ?_
      exact ret_IWC Z hr hlk hP hS hF dX9_lay_18
theorem xX9_lay {p : Program} {l : Launch} {e : Env} {R : Room} {s : State} {m : MethodId} {args : Array Value} {below : List Frame} {meth : Method} {c : Code} {H : Heap} {locs : List Loc} {Q : State → Prop} {cc : ByteArray} {nL : Nat} {own : String} {g : GG} {pc index : Nat} {ls : Array Slot} {rest : List Value} {mc mm : Mem} (Z : ZZ p s m args c cc nL own g) (hP : va_P g.2.2.1 vwCl (wL g mc mm) H) (hS : va_S (AA g s.heap.size) s.heap H locs) {v1 : Int32} {v2 : Int32} {v3 : Int32} {v4 : Int32} {q : Int32 × Mem} (hq : F9_lay v1 v2 v3 v4 mc = some q) (hlk : Cond.methodLink own index yX9_lay ∈ wsL_law) (hsz : ls.size = nL) (hro : (rest.map fun v => v.category).sum ≤ 8) (hR : 2 + 1 ≤ R.frames ∧ 8 + (6 + 11) + 43 ≤ R.locals) (hdg : decode cc pc = .ok (.invokevirtual index, 3)) (kk : ∀ (H : Heap) (locs : List Loc), va_P g.2.2.1 vwCl (wL g q.2 mm) H → va_S (AA g s.heap.size) s.heap H locs → W p l e R s m args below meth c H locs 0 0 Q (F0 m (pc + 3) ls (.int q.1 :: rest))) : W p l e R s m args below meth c H locs 0 0 Q (F0 m pc ls (.int v4 :: .int v3 :: .int v2 :: .int v1 :: .ref (g.1 0) :: rest)) :=
  x_VI Z hP hS (kX9_lay l g v1 v2 v3 v4 mc mm q hq) (isO_w ck_0) (ci := 9) (by decide) rfl rfl mf_X9_lay mv_X9_lay hlk rfl rfl hsz hro hR hdg kk

theorem dX9_allHeardWithout_0 : decode cX9_allHeardWithout 0 = .ok (.aload_n 0, 1) := by decide +kernel
theorem dX9_allHeardWithout_1 : decode cX9_allHeardWithout 1 = .ok (.getfield 74, 3) := by decide +kernel
theorem dX9_allHeardWithout_4 : decode cX9_allHeardWithout 4 = .ok (.aload_n 0, 1) := by decide +kernel
theorem dX9_allHeardWithout_5 : decode cX9_allHeardWithout 5 = .ok (.getfield 35, 3) := by decide +kernel
theorem dX9_allHeardWithout_8 : decode cX9_allHeardWithout 8 = .ok (.iconst (-1), 1) := by decide +kernel
theorem dX9_allHeardWithout_9 : decode cX9_allHeardWithout 9 = .ok (.iload_n 2, 1) := by decide +kernel
theorem dX9_allHeardWithout_10 : decode cX9_allHeardWithout 10 = .ok (.iconst (-1), 1) := by decide +kernel
theorem dX9_allHeardWithout_11 : decode cX9_allHeardWithout 11 = .ok (.ixor, 1) := by decide +kernel
theorem dX9_allHeardWithout_12 : decode cX9_allHeardWithout 12 = .ok (.iand, 1) := by decide +kernel
theorem dX9_allHeardWithout_13 : decode cX9_allHeardWithout 13 = .ok (.invokevirtual 232, 3) := by decide +kernel
theorem dX9_allHeardWithout_16 : decode cX9_allHeardWithout 16 = .ok (.iconst 0, 1) := by decide +kernel
theorem dX9_allHeardWithout_17 : decode cX9_allHeardWithout 17 = .ok (.istore_n 3, 1) := by decide +kernel
theorem dX9_allHeardWithout_18 : decode cX9_allHeardWithout 18 = .ok (.iload_n 3, 1) := by decide +kernel
theorem dX9_allHeardWithout_19 : decode cX9_allHeardWithout 19 = .ok (.aload_n 0, 1) := by decide +kernel
theorem dX9_allHeardWithout_20 : decode cX9_allHeardWithout 20 = .ok (.getfield 28, 3) := by decide +kernel
theorem dX9_allHeardWithout_23 : decode cX9_allHeardWithout 23 = .ok (.getfield 134, 3) := by decide +kernel
theorem dX9_allHeardWithout_26 : decode cX9_allHeardWithout 26 = .ok (.if_icmp .ge 60, 3) := by decide +kernel
theorem dX9_allHeardWithout_29 : decode cX9_allHeardWithout 29 = .ok (.aload_n 0, 1) := by decide +kernel
theorem dX9_allHeardWithout_30 : decode cX9_allHeardWithout 30 = .ok (.getfield 80, 3) := by decide +kernel
theorem dX9_allHeardWithout_33 : decode cX9_allHeardWithout 33 = .ok (.aload_n 0, 1) := by decide +kernel
theorem dX9_allHeardWithout_34 : decode cX9_allHeardWithout 34 = .ok (.getfield 21, 3) := by decide +kernel
theorem dX9_allHeardWithout_37 : decode cX9_allHeardWithout 37 = .ok (.aload_n 0, 1) := by decide +kernel
theorem dX9_allHeardWithout_38 : decode cX9_allHeardWithout 38 = .ok (.getfield 74, 3) := by decide +kernel
theorem dX9_allHeardWithout_41 : decode cX9_allHeardWithout 41 = .ok (.aload_n 0, 1) := by decide +kernel
theorem dX9_allHeardWithout_42 : decode cX9_allHeardWithout 42 = .ok (.getfield 28, 3) := by decide +kernel
theorem dX9_allHeardWithout_45 : decode cX9_allHeardWithout 45 = .ok (.iload_n 3, 1) := by decide +kernel
theorem dX9_allHeardWithout_46 : decode cX9_allHeardWithout 46 = .ok (.aload_n 0, 1) := by decide +kernel
theorem dX9_allHeardWithout_47 : decode cX9_allHeardWithout 47 = .ok (.getfield 28, 3) := by decide +kernel
theorem dX9_allHeardWithout_50 : decode cX9_allHeardWithout 50 = .ok (.getfield 138, 3) := by decide +kernel
theorem dX9_allHeardWithout_53 : decode cX9_allHeardWithout 53 = .ok (.iload_n 3, 1) := by decide +kernel
theorem dX9_allHeardWithout_54 : decode cX9_allHeardWithout 54 = .ok (.iaload, 1) := by decide +kernel
theorem dX9_allHeardWithout_55 : decode cX9_allHeardWithout 55 = .ok (.aload_n 0, 1) := by decide +kernel
theorem dX9_allHeardWithout_56 : decode cX9_allHeardWithout 56 = .ok (.getfield 28, 3) := by decide +kernel
theorem dX9_allHeardWithout_59 : decode cX9_allHeardWithout 59 = .ok (.getfield 141, 3) := by decide +kernel
theorem dX9_allHeardWithout_62 : decode cX9_allHeardWithout 62 = .ok (.iload_n 3, 1) := by decide +kernel
theorem dX9_allHeardWithout_63 : decode cX9_allHeardWithout 63 = .ok (.iaload, 1) := by decide +kernel
theorem dX9_allHeardWithout_64 : decode cX9_allHeardWithout 64 = .ok (.invokevirtual 198, 3) := by decide +kernel
theorem dX9_allHeardWithout_67 : decode cX9_allHeardWithout 67 = .ok (.aload_n 0, 1) := by decide +kernel
theorem dX9_allHeardWithout_68 : decode cX9_allHeardWithout 68 = .ok (.getfield 80, 3) := by decide +kernel
theorem dX9_allHeardWithout_71 : decode cX9_allHeardWithout 71 = .ok (.iload_n 1, 1) := by decide +kernel
theorem dX9_allHeardWithout_72 : decode cX9_allHeardWithout 72 = .ok (.invokevirtual 186, 3) := by decide +kernel
theorem dX9_allHeardWithout_75 : decode cX9_allHeardWithout 75 = .ok (.ifCond .ne 5, 3) := by decide +kernel
theorem dX9_allHeardWithout_78 : decode cX9_allHeardWithout 78 = .ok (.iconst 0, 1) := by decide +kernel
theorem dX9_allHeardWithout_79 : decode cX9_allHeardWithout 79 = .ok (.ireturn, 1) := by decide +kernel
theorem dX9_allHeardWithout_80 : decode cX9_allHeardWithout 80 = .ok (.iinc 3 1, 3) := by decide +kernel
theorem dX9_allHeardWithout_83 : decode cX9_allHeardWithout 83 = .ok (.goto (-65), 3) := by decide +kernel
theorem dX9_allHeardWithout_86 : decode cX9_allHeardWithout 86 = .ok (.iconst 1, 1) := by decide +kernel
theorem dX9_allHeardWithout_87 : decode cX9_allHeardWithout 87 = .ok (.ireturn, 1) := by decide +kernel
noncomputable def F9_allHeardWithout_p18 (kh : Int32 → Mem → Option (Int32 × Mem)) (v1 : Int32) (v2 : Int32) (a3 : Int32) (M : Mem) : Option (Int32 × Mem) :=
  (if (M 11 5) ≤ a3 then some ((1 : Int32), M) else (ck a3 8 (ck a3 8 ((F4_follow 92 6 84 11 a3 (M 13 a3.toNatClampNeg) (M 14 a3.toNatClampNeg) M).bind (fun q8 => ((F4_isHeardAt 92 v1 q8).bind (fun q9 => (if q9 = (0 : Int32) then some ((0 : Int32), q8) else kh (a3 + (1 : Int32)) q8))))))))
noncomputable def F9_allHeardWithout_h18 (v1 : Int32) (v2 : Int32) : Nat → Int32 → Mem → Option (Int32 × Mem)
  | 0, _, _ => none
  | n + 1, a3, M => F9_allHeardWithout_p18 (F9_allHeardWithout_h18 v1 v2 n) v1 v2 a3 M
noncomputable def F9_allHeardWithout (v1 : Int32) (v2 : Int32) (mc : Mem) : Option (Int32 × Mem) :=
  ((F3_fill 84 17 ((-1 : Int32) &&& (v2 ^^^ (-1 : Int32))) mc).bind (fun q10 => ((F9_allHeardWithout_h18 v1 v2 FU) (0 : Int32) q10)))
set_option maxHeartbeats 4000000 in
set_option maxRecDepth 100000 in
theorem kX9_allHeardWithout (l : Launch) (g : GG) (v1 : Int32) (v2 : Int32) (mc mm : Mem) (q : Int32 × Mem) (hF : F9_allHeardWithout v1 v2 mc = some q) : KI l yX9_allHeardWithout cX9_allHeardWithout 4 .boolean 2 56 g [.ref (g.1 0), .int v1, .int v2] mc mm q.1 (q.2, mm) := by
  intro sz
  refine x_start (Qc := fun z => QI g z q.1 (q.2, mm)) (by decide +kernel) (Nat.le_of_ble_eq_true rfl) ?_ sz
  intro p e s m args below meth c ls Z hr hlk hP hl
  have hx := Z.1.1
  have hb := Z.1.2.1
  have hown := Z.1.2.2.2.1
  have hts := Z.1.2.2.2.2
  have hS : va_S (AA g s.heap.size) s.heap s.heap [] := va_S.rf
  have hl : lv_has ls 4 [(0, .ref (g.1 0)), (1, .int v1), (2, .int v2)] := hl
  unfold F9_allHeardWithout at hF
  have hL18 : ∀ n : Nat, ∀ (a3 : Int32) (M : Mem), F9_allHeardWithout_h18 v1 v2 n a3 M = some q → ∀ (H : Heap) (locs : List Loc) (ls : Array Slot), lv_has ls 4 [(0, .ref (g.1 0)), (1, .int v1), (3, .int a3)] → va_P g.2.2.1 vwCl (wL g M mm) H → va_S (AA g s.heap.size) s.heap H locs → W p l e { frames := 2, cells := 0, slots := 0, locals := 56 } s m args below meth c H locs 0 0 (MQ below (QI g s.heap.size q.1 (q.2, mm)) args s 0 0 (AA g s.heap.size)) (F0 m 18 ls []) := by
    intro n
    induction n with
    | zero => intro a3 M hF H locs ls hl hP hS; exact absurd hF (fun z => nomatch (show (none : Option _) = some q from z))
    | succ n ih =>
      generalize hkh : F9_allHeardWithout_h18 v1 v2 n = kh at ih
      intro a3 M hF H locs ls hl hP hS
      have hF : F9_allHeardWithout_p18 (F9_allHeardWithout_h18 v1 v2 n) v1 v2 a3 M = some q := hF
      rw [hkh] at hF
      unfold F9_allHeardWithout_p18 at hF
      refine lv_iload_n hx hb dX9_allHeardWithout_18 rfl (lv_at hl 2 rfl) ?_
      refine lv_aload_n hx hb dX9_allHeardWithout_19 rfl (lv_at hl 0 rfl) ?_
      refine gf9_2 Z hP wd_1_23 dX9_allHeardWithout_20 ?_
      refine gf5_5N Z hP ck_11 nf_7 dX9_allHeardWithout_23 ?_
      refine lv_icmp_ge (tgt := 86) hx hb dX9_allHeardWithout_26 rfl (fun hc => ?_) (fun hc => ?_)
      · have hF := (if_pos hc).symm.trans hF
        refine lv_iconst (v := (1 : Int32)) hx hb dX9_allHeardWithout_86 ic_1 ?_
        exact ret_ZWC Z hr hlk hP hS (Or.inr rfl) hF dX9_allHeardWithout_87
      · have hF := (if_neg hc).symm.trans hF
        refine lv_aload_n hx hb dX9_allHeardWithout_29 rfl (lv_at hl 0 rfl) ?_
        refine gf9_13 Z hP wd_3_0 dX9_allHeardWithout_30 ?_
        refine lv_aload_n hx hb dX9_allHeardWithout_33 rfl (lv_at hl 0 rfl) ?_
        refine gf9_1 Z hP wd_1_19 dX9_allHeardWithout_34 ?_
        refine lv_aload_n hx hb dX9_allHeardWithout_37 rfl (lv_at hl 0 rfl) ?_
        refine gf9_11 Z hP wd_2_22 dX9_allHeardWithout_38 ?_
        refine lv_aload_n hx hb dX9_allHeardWithout_41 rfl (lv_at hl 0 rfl) ?_
        refine gf9_2 Z hP wd_1_23 dX9_allHeardWithout_42 ?_
        refine lv_iload_n hx hb dX9_allHeardWithout_45 rfl (lv_at hl 2 rfl) ?_
        refine lv_aload_n hx hb dX9_allHeardWithout_46 rfl (lv_at hl 0 rfl) ?_
        refine gf9_2 Z hP wd_1_23 dX9_allHeardWithout_47 ?_
        refine gf5_1N Z hP ck_11 nf_9 dX9_allHeardWithout_50 ?_
        refine lv_iload_n hx hb dX9_allHeardWithout_53 rfl (lv_at hl 2 rfl) ?_
        obtain ⟨hi6, hF⟩ := ck_ok hF
        refine ra_ld Z hP (ia_5_1 ck_11) hi6 dX9_allHeardWithout_54 ?_
        refine lv_aload_n hx hb dX9_allHeardWithout_55 rfl (lv_at hl 0 rfl) ?_
        refine gf9_2 Z hP wd_1_23 dX9_allHeardWithout_56 ?_
        refine gf5_2N Z hP ck_11 nf_10 dX9_allHeardWithout_59 ?_
        refine lv_iload_n hx hb dX9_allHeardWithout_62 rfl (lv_at hl 2 rfl) ?_
        obtain ⟨hi7, hF⟩ := ck_ok hF
        refine ra_ld Z hP (ia_5_2 ck_11) hi7 dX9_allHeardWithout_63 ?_
        obtain ⟨q8, hq8, hF⟩ := bd_ok hF
        refine xX4_follow Z hP hS ck_92 ck_6 ck_84 ck_11 hq8 wd_20_22 hl.1 (Nat.le_of_ble_eq_true rfl) ⟨Nat.le_of_ble_eq_true rfl, Nat.le_of_ble_eq_true rfl⟩ dX9_allHeardWithout_64 (fun H locs hP hS => ?_)
        refine lv_aload_n hx hb dX9_allHeardWithout_67 rfl (lv_at hl 0 rfl) ?_
        refine gf9_13 Z hP wd_3_0 dX9_allHeardWithout_68 ?_
        refine lv_iload_n hx hb dX9_allHeardWithout_71 rfl (lv_at hl 1 rfl) ?_
        obtain ⟨q9, hq9, hF⟩ := bd_ok hF
        refine xX4_isHeardAt Z hP hS ck_92 hq9 wd_24_22 hl.1 (Nat.le_of_ble_eq_true rfl) ⟨Nat.le_of_ble_eq_true rfl, Nat.le_of_ble_eq_true rfl⟩ dX9_allHeardWithout_72 (fun H locs hP hS => ?_)
        refine lv_if_ne (tgt := 80) hx hb dX9_allHeardWithout_75 rfl (fun hc => ?_) (fun hc => ?_)
        · have hF := (if_neg hc).symm.trans hF
          refine lv_iinc (lv' := [(3, .int (a3 + (1 : Int32))), (0, .ref (g.1 0)), (1, .int v1)]) (v := (a3 + (1 : Int32))) hx hb dX9_allHeardWithout_80 hl (k := 2) rfl (io_1 _) (Nat.le_of_ble_eq_true rfl) rfl (fun ls hl => ?_)
          refine lv_goto (tgt := 18) hx hb dX9_allHeardWithout_83 rfl ?_
          exact ih _ _ hF _ _ _ (lv_sub hl [1, 2, 0] rfl) hP hS
        · have hF := (if_pos hc).symm.trans hF
          refine lv_iconst (v := (0 : Int32)) hx hb dX9_allHeardWithout_78 ic_0 ?_
          exact ret_ZWC Z hr hlk hP hS (Or.inl rfl) hF dX9_allHeardWithout_79
  refine lv_aload_n hx hb dX9_allHeardWithout_0 rfl (lv_at hl 0 rfl) ?_
  refine gf9_11 Z hP wd_2_22 dX9_allHeardWithout_1 ?_
  refine lv_aload_n hx hb dX9_allHeardWithout_4 rfl (lv_at hl 0 rfl) ?_
  refine gf9_3 Z hP wd_2_3 dX9_allHeardWithout_5 ?_
  refine lv_iconst (v := (-1 : Int32)) hx hb dX9_allHeardWithout_8 ic_m1 ?_
  refine lv_iload_n hx hb dX9_allHeardWithout_9 rfl (lv_at hl 2 rfl) ?_
  refine lv_iconst (v := (-1 : Int32)) hx hb dX9_allHeardWithout_10 ic_m1 ?_
  refine lv_ixor hx hb dX9_allHeardWithout_11 ?_
  refine lv_iand hx hb dX9_allHeardWithout_12 ?_
  obtain ⟨q10, hq10, hF⟩ := bd_ok hF
  refine xX3_fill Z hP hS ck_84 ck_17 hq10 wd_20_14 hl.1 (Nat.le_of_ble_eq_true rfl) ⟨Nat.le_of_ble_eq_true rfl, Nat.le_of_ble_eq_true rfl⟩ dX9_allHeardWithout_13 (fun H locs hP hS => ?_)
  refine lv_iconst (v := (0 : Int32)) hx hb dX9_allHeardWithout_16 ic_0 ?_
  refine lv_istore_n (lv' := [(3, .int (0 : Int32)), (0, .ref (g.1 0)), (1, .int v1), (2, .int v2)]) hx hb dX9_allHeardWithout_17 rfl hl (Nat.le_of_ble_eq_true rfl) rfl (fun ls hl => ?_)
  exact (hL18 FU) _ _ hF _ _ _ (lv_sub hl [1, 2, 0] rfl) hP hS
theorem xX9_allHeardWithout {p : Program} {l : Launch} {e : Env} {R : Room} {s : State} {m : MethodId} {args : Array Value} {below : List Frame} {meth : Method} {c : Code} {H : Heap} {locs : List Loc} {Q : State → Prop} {cc : ByteArray} {nL : Nat} {own : String} {g : GG} {pc index : Nat} {ls : Array Slot} {rest : List Value} {mc mm : Mem} (Z : ZZ p s m args c cc nL own g) (hP : va_P g.2.2.1 vwCl (wL g mc mm) H) (hS : va_S (AA g s.heap.size) s.heap H locs) {v1 : Int32} {v2 : Int32} {q : Int32 × Mem} (hq : F9_allHeardWithout v1 v2 mc = some q) (hlk : Cond.methodLink own index yX9_allHeardWithout ∈ wsL_law) (hsz : ls.size = nL) (hro : (rest.map fun v => v.category).sum ≤ 8) (hR : 2 + 1 ≤ R.frames ∧ 8 + (4 + 11) + 56 ≤ R.locals) (hdg : decode cc pc = .ok (.invokevirtual index, 3)) (kk : ∀ (H : Heap) (locs : List Loc), va_P g.2.2.1 vwCl (wL g q.2 mm) H → va_S (AA g s.heap.size) s.heap H locs → W p l e R s m args below meth c H locs 0 0 Q (F0 m (pc + 3) ls (.int q.1 :: rest))) : W p l e R s m args below meth c H locs 0 0 Q (F0 m pc ls (.int v2 :: .int v1 :: .ref (g.1 0) :: rest)) :=
  x_VI Z hP hS (kX9_allHeardWithout l g v1 v2 mc mm q hq) (isO_w ck_0) (ci := 9) (by decide) rfl rfl mf_X9_allHeardWithout mv_X9_allHeardWithout hlk rfl rfl hsz hro hR hdg kk
theorem dX9_oneLidToOpen_0 : decode cX9_oneLidToOpen 0 = .ok (.iconst 0, 1) := by decide +kernel
theorem dX9_oneLidToOpen_1 : decode cX9_oneLidToOpen 1 = .ok (.istore_n 2, 1) := by decide +kernel
theorem dX9_oneLidToOpen_2 : decode cX9_oneLidToOpen 2 = .ok (.iload_n 2, 1) := by decide +kernel
theorem dX9_oneLidToOpen_3 : decode cX9_oneLidToOpen 3 = .ok (.aload_n 0, 1) := by decide +kernel
theorem dX9_oneLidToOpen_4 : decode cX9_oneLidToOpen 4 = .ok (.getfield 35, 3) := by decide +kernel
theorem dX9_oneLidToOpen_7 : decode cX9_oneLidToOpen 7 = .ok (.getfield 160, 3) := by decide +kernel
theorem dX9_oneLidToOpen_10 : decode cX9_oneLidToOpen 10 = .ok (.if_icmp .ge 35, 3) := by decide +kernel
theorem dX9_oneLidToOpen_13 : decode cX9_oneLidToOpen 13 = .ok (.aload_n 0, 1) := by decide +kernel
theorem dX9_oneLidToOpen_14 : decode cX9_oneLidToOpen 14 = .ok (.getfield 35, 3) := by decide +kernel
theorem dX9_oneLidToOpen_17 : decode cX9_oneLidToOpen 17 = .ok (.getfield 404, 3) := by decide +kernel
theorem dX9_oneLidToOpen_20 : decode cX9_oneLidToOpen 20 = .ok (.iload_n 2, 1) := by decide +kernel
theorem dX9_oneLidToOpen_21 : decode cX9_oneLidToOpen 21 = .ok (.iaload, 1) := by decide +kernel
theorem dX9_oneLidToOpen_22 : decode cX9_oneLidToOpen 22 = .ok (.iconst 1, 1) := by decide +kernel
theorem dX9_oneLidToOpen_23 : decode cX9_oneLidToOpen 23 = .ok (.if_icmp .ne 16, 3) := by decide +kernel
theorem dX9_oneLidToOpen_26 : decode cX9_oneLidToOpen 26 = .ok (.aload_n 0, 1) := by decide +kernel
theorem dX9_oneLidToOpen_27 : decode cX9_oneLidToOpen 27 = .ok (.iload_n 1, 1) := by decide +kernel
theorem dX9_oneLidToOpen_28 : decode cX9_oneLidToOpen 28 = .ok (.iconst 1, 1) := by decide +kernel
theorem dX9_oneLidToOpen_29 : decode cX9_oneLidToOpen 29 = .ok (.iload_n 2, 1) := by decide +kernel
theorem dX9_oneLidToOpen_30 : decode cX9_oneLidToOpen 30 = .ok (.ishl, 1) := by decide +kernel
theorem dX9_oneLidToOpen_31 : decode cX9_oneLidToOpen 31 = .ok (.invokevirtual 212, 3) := by decide +kernel
theorem dX9_oneLidToOpen_34 : decode cX9_oneLidToOpen 34 = .ok (.ifCond .eq 5, 3) := by decide +kernel
theorem dX9_oneLidToOpen_37 : decode cX9_oneLidToOpen 37 = .ok (.iload_n 2, 1) := by decide +kernel
theorem dX9_oneLidToOpen_38 : decode cX9_oneLidToOpen 38 = .ok (.ireturn, 1) := by decide +kernel
theorem dX9_oneLidToOpen_39 : decode cX9_oneLidToOpen 39 = .ok (.iinc 2 1, 3) := by decide +kernel
theorem dX9_oneLidToOpen_42 : decode cX9_oneLidToOpen 42 = .ok (.goto (-40), 3) := by decide +kernel
theorem dX9_oneLidToOpen_45 : decode cX9_oneLidToOpen 45 = .ok (.iconst (-1), 1) := by decide +kernel
theorem dX9_oneLidToOpen_46 : decode cX9_oneLidToOpen 46 = .ok (.ireturn, 1) := by decide +kernel
noncomputable def F9_oneLidToOpen_b39 (kh : Int32 → Mem → Option (Int32 × Mem)) (v1 : Int32) (a2 : Int32) (M : Mem) : Option (Int32 × Mem) :=
  kh (a2 + (1 : Int32)) M
noncomputable def F9_oneLidToOpen_p2 (kh : Int32 → Mem → Option (Int32 × Mem)) (v1 : Int32) (a2 : Int32) (M : Mem) : Option (Int32 × Mem) :=
  (if (M 17 3) ≤ a2 then some ((-1 : Int32), M) else (ck a2 8 (if (M 18 a2.toNatClampNeg) = (1 : Int32) then ((F9_allHeardWithout v1 ((1 : Int32) <<< (a2 &&& (31 : Int32))) M).bind (fun q4 => (if q4.1 = (0 : Int32) then (F9_oneLidToOpen_b39 kh v1) a2 q4.2 else some (a2, q4.2)))) else (F9_oneLidToOpen_b39 kh v1) a2 M)))
noncomputable def F9_oneLidToOpen_h2 (v1 : Int32) : Nat → Int32 → Mem → Option (Int32 × Mem)
  | 0, _, _ => none
  | n + 1, a2, M => F9_oneLidToOpen_p2 (F9_oneLidToOpen_h2 v1 n) v1 a2 M
noncomputable def F9_oneLidToOpen (v1 : Int32) (mc : Mem) : Option (Int32 × Mem) :=
  (F9_oneLidToOpen_h2 v1 FU) (0 : Int32) mc
set_option maxHeartbeats 4000000 in
set_option maxRecDepth 100000 in
theorem kX9_oneLidToOpen (l : Launch) (g : GG) (v1 : Int32) (mc mm : Mem) (q : Int32 × Mem) (hF : F9_oneLidToOpen v1 mc = some q) : KI l yX9_oneLidToOpen cX9_oneLidToOpen 3 .int 3 79 g [.ref (g.1 0), .int v1] mc mm q.1 (q.2, mm) := by
  intro sz
  refine x_start (Qc := fun z => QI g z q.1 (q.2, mm)) (by decide +kernel) (Nat.le_of_ble_eq_true rfl) ?_ sz
  intro p e s m args below meth c ls Z hr hlk hP hl
  have hx := Z.1.1
  have hb := Z.1.2.1
  have hown := Z.1.2.2.2.1
  have hts := Z.1.2.2.2.2
  have hS : va_S (AA g s.heap.size) s.heap s.heap [] := va_S.rf
  have hl : lv_has ls 3 [(0, .ref (g.1 0)), (1, .int v1)] := hl
  unfold F9_oneLidToOpen at hF
  have hL2 : ∀ n : Nat, ∀ (a2 : Int32) (M : Mem), F9_oneLidToOpen_h2 v1 n a2 M = some q → ∀ (H : Heap) (locs : List Loc) (ls : Array Slot), lv_has ls 3 [(0, .ref (g.1 0)), (1, .int v1), (2, .int a2)] → va_P g.2.2.1 vwCl (wL g M mm) H → va_S (AA g s.heap.size) s.heap H locs → W p l e { frames := 3, cells := 0, slots := 0, locals := 79 } s m args below meth c H locs 0 0 (MQ below (QI g s.heap.size q.1 (q.2, mm)) args s 0 0 (AA g s.heap.size)) (F0 m 2 ls []) := by
    intro n
    induction n with
    | zero => intro a2 M hF H locs ls hl hP hS; exact absurd hF (fun z => nomatch (show (none : Option _) = some q from z))
    | succ n ih =>
      generalize hkh : F9_oneLidToOpen_h2 v1 n = kh at ih
      have hb39 : ∀ (a2 : Int32) (M : Mem), F9_oneLidToOpen_b39 kh v1 a2 M = some q → ∀ (H : Heap) (locs : List Loc) (ls : Array Slot), lv_has ls 3 [(0, .ref (g.1 0)), (1, .int v1), (2, .int a2)] → va_P g.2.2.1 vwCl (wL g M mm) H → va_S (AA g s.heap.size) s.heap H locs → W p l e { frames := 3, cells := 0, slots := 0, locals := 79 } s m args below meth c H locs 0 0 (MQ below (QI g s.heap.size q.1 (q.2, mm)) args s 0 0 (AA g s.heap.size)) (F0 m 39 ls []) := by
        intro a2 M hF H locs ls hl hP hS
        unfold F9_oneLidToOpen_b39 at hF
        refine lv_iinc (lv' := [(2, .int (a2 + (1 : Int32))), (0, .ref (g.1 0)), (1, .int v1)]) (v := (a2 + (1 : Int32))) hx hb dX9_oneLidToOpen_39 hl (k := 2) rfl (io_1 _) (Nat.le_of_ble_eq_true rfl) rfl (fun ls hl => ?_)
        refine lv_goto (tgt := 2) hx hb dX9_oneLidToOpen_42 rfl ?_
        exact ih _ _ hF _ _ _ (lv_sub hl [1, 2, 0] rfl) hP hS
      intro a2 M hF H locs ls hl hP hS
      have hF : F9_oneLidToOpen_p2 (F9_oneLidToOpen_h2 v1 n) v1 a2 M = some q := hF
      rw [hkh] at hF
      unfold F9_oneLidToOpen_p2 at hF
      refine lv_iload_n hx hb dX9_oneLidToOpen_2 rfl (lv_at hl 2 rfl) ?_
      refine lv_aload_n hx hb dX9_oneLidToOpen_3 rfl (lv_at hl 0 rfl) ?_
      refine gf9_3 Z hP wd_2_3 dX9_oneLidToOpen_4 ?_
      refine gf2_3N Z hP ck_17 nf_12 dX9_oneLidToOpen_7 ?_
      refine lv_icmp_ge (tgt := 45) hx hb dX9_oneLidToOpen_10 rfl (fun hc => ?_) (fun hc => ?_)
      · have hF := (if_pos hc).symm.trans hF
        refine lv_iconst (v := (-1 : Int32)) hx hb dX9_oneLidToOpen_45 ic_m1 ?_
        exact ret_IWC Z hr hlk hP hS hF dX9_oneLidToOpen_46
      · have hF := (if_neg hc).symm.trans hF
        refine lv_aload_n hx hb dX9_oneLidToOpen_13 rfl (lv_at hl 0 rfl) ?_
        refine gf9_3 Z hP wd_2_3 dX9_oneLidToOpen_14 ?_
        refine gf2_0N Z hP ck_17 nf_27 dX9_oneLidToOpen_17 ?_
        refine lv_iload_n hx hb dX9_oneLidToOpen_20 rfl (lv_at hl 2 rfl) ?_
        obtain ⟨hi3, hF⟩ := ck_ok hF
        refine ra_ld Z hP (ia_2_0 ck_17) hi3 dX9_oneLidToOpen_21 ?_
        refine lv_iconst (v := (1 : Int32)) hx hb dX9_oneLidToOpen_22 ic_1 ?_
        refine lv_icmp_ne (tgt := 39) hx hb dX9_oneLidToOpen_23 rfl (fun hc => ?_) (fun hc => ?_)
        · have hF := (if_neg hc).symm.trans hF
          exact hb39 _ _ hF _ _ _ (lv_sub hl [0, 1, 2] rfl) hP hS
        · have hF := (if_pos hc).symm.trans hF
          refine lv_aload_n hx hb dX9_oneLidToOpen_26 rfl (lv_at hl 0 rfl) ?_
          refine lv_iload_n hx hb dX9_oneLidToOpen_27 rfl (lv_at hl 1 rfl) ?_
          refine lv_iconst (v := (1 : Int32)) hx hb dX9_oneLidToOpen_28 ic_1 ?_
          refine lv_iload_n hx hb dX9_oneLidToOpen_29 rfl (lv_at hl 2 rfl) ?_
          refine lv_ishl hx hb dX9_oneLidToOpen_30 ?_
          obtain ⟨q4, hq4, hF⟩ := bd_ok hF
          refine xX9_allHeardWithout Z hP hS hq4 wd_29_20 hl.1 (Nat.le_of_ble_eq_true rfl) ⟨Nat.le_of_ble_eq_true rfl, Nat.le_of_ble_eq_true rfl⟩ dX9_oneLidToOpen_31 (fun H locs hP hS => ?_)
          refine lv_if_eq (tgt := 39) hx hb dX9_oneLidToOpen_34 rfl (fun hc => ?_) (fun hc => ?_)
          · have hF := (if_pos hc).symm.trans hF
            exact hb39 _ _ hF _ _ _ (lv_sub hl [0, 1, 2] rfl) hP hS
          · have hF := (if_neg hc).symm.trans hF
            refine lv_iload_n hx hb dX9_oneLidToOpen_37 rfl (lv_at hl 2 rfl) ?_
            exact ret_IWC Z hr hlk hP hS hF dX9_oneLidToOpen_38
  refine lv_iconst (v := (0 : Int32)) hx hb dX9_oneLidToOpen_0 ic_0 ?_
  refine lv_istore_n (lv' := [(2, .int (0 : Int32)), (0, .ref (g.1 0)), (1, .int v1)]) hx hb dX9_oneLidToOpen_1 rfl hl (Nat.le_of_ble_eq_true rfl) rfl (fun ls hl => ?_)
  exact (hL2 FU) _ _ hF _ _ _ (lv_sub hl [1, 2, 0] rfl) hP hS
theorem xX9_oneLidToOpen {p : Program} {l : Launch} {e : Env} {R : Room} {s : State} {m : MethodId} {args : Array Value} {below : List Frame} {meth : Method} {c : Code} {H : Heap} {locs : List Loc} {Q : State → Prop} {cc : ByteArray} {nL : Nat} {own : String} {g : GG} {pc index : Nat} {ls : Array Slot} {rest : List Value} {mc mm : Mem} (Z : ZZ p s m args c cc nL own g) (hP : va_P g.2.2.1 vwCl (wL g mc mm) H) (hS : va_S (AA g s.heap.size) s.heap H locs) {v1 : Int32} {q : Int32 × Mem} (hq : F9_oneLidToOpen v1 mc = some q) (hlk : Cond.methodLink own index yX9_oneLidToOpen ∈ wsL_law) (hsz : ls.size = nL) (hro : (rest.map fun v => v.category).sum ≤ 8) (hR : 3 + 1 ≤ R.frames ∧ 8 + (3 + 11) + 79 ≤ R.locals) (hdg : decode cc pc = .ok (.invokevirtual index, 3)) (kk : ∀ (H : Heap) (locs : List Loc), va_P g.2.2.1 vwCl (wL g q.2 mm) H → va_S (AA g s.heap.size) s.heap H locs → W p l e R s m args below meth c H locs 0 0 Q (F0 m (pc + 3) ls (.int q.1 :: rest))) : W p l e R s m args below meth c H locs 0 0 Q (F0 m pc ls (.int v1 :: .ref (g.1 0) :: rest)) :=
  x_VI Z hP hS (kX9_oneLidToOpen l g v1 mc mm q hq) (isO_w ck_0) (ci := 9) (by decide) rfl rfl mf_X9_oneLidToOpen mv_X9_oneLidToOpen hlk rfl rfl hsz hro hR hdg kk
theorem dX9_twoLidsToOpen_0 : decode cX9_twoLidsToOpen 0 = .ok (.iconst 0, 1) := by decide +kernel
theorem dX9_twoLidsToOpen_1 : decode cX9_twoLidsToOpen 1 = .ok (.istore_n 3, 1) := by decide +kernel
theorem dX9_twoLidsToOpen_2 : decode cX9_twoLidsToOpen 2 = .ok (.iload_n 3, 1) := by decide +kernel
theorem dX9_twoLidsToOpen_3 : decode cX9_twoLidsToOpen 3 = .ok (.aload_n 0, 1) := by decide +kernel
theorem dX9_twoLidsToOpen_4 : decode cX9_twoLidsToOpen 4 = .ok (.getfield 35, 3) := by decide +kernel
theorem dX9_twoLidsToOpen_7 : decode cX9_twoLidsToOpen 7 = .ok (.getfield 160, 3) := by decide +kernel
theorem dX9_twoLidsToOpen_10 : decode cX9_twoLidsToOpen 10 = .ok (.if_icmp .ge 107, 3) := by decide +kernel
theorem dX9_twoLidsToOpen_13 : decode cX9_twoLidsToOpen 13 = .ok (.iload_n 3, 1) := by decide +kernel
theorem dX9_twoLidsToOpen_14 : decode cX9_twoLidsToOpen 14 = .ok (.iconst 1, 1) := by decide +kernel
theorem dX9_twoLidsToOpen_15 : decode cX9_twoLidsToOpen 15 = .ok (.iadd, 1) := by decide +kernel
theorem dX9_twoLidsToOpen_16 : decode cX9_twoLidsToOpen 16 = .ok (.istore 4, 2) := by decide +kernel
theorem dX9_twoLidsToOpen_18 : decode cX9_twoLidsToOpen 18 = .ok (.iload 4, 2) := by decide +kernel
theorem dX9_twoLidsToOpen_20 : decode cX9_twoLidsToOpen 20 = .ok (.aload_n 0, 1) := by decide +kernel
theorem dX9_twoLidsToOpen_21 : decode cX9_twoLidsToOpen 21 = .ok (.getfield 35, 3) := by decide +kernel
theorem dX9_twoLidsToOpen_24 : decode cX9_twoLidsToOpen 24 = .ok (.getfield 160, 3) := by decide +kernel
theorem dX9_twoLidsToOpen_27 : decode cX9_twoLidsToOpen 27 = .ok (.if_icmp .ge 84, 3) := by decide +kernel
theorem dX9_twoLidsToOpen_30 : decode cX9_twoLidsToOpen 30 = .ok (.aload_n 0, 1) := by decide +kernel
theorem dX9_twoLidsToOpen_31 : decode cX9_twoLidsToOpen 31 = .ok (.getfield 35, 3) := by decide +kernel
theorem dX9_twoLidsToOpen_34 : decode cX9_twoLidsToOpen 34 = .ok (.getfield 404, 3) := by decide +kernel
theorem dX9_twoLidsToOpen_37 : decode cX9_twoLidsToOpen 37 = .ok (.iload_n 3, 1) := by decide +kernel
theorem dX9_twoLidsToOpen_38 : decode cX9_twoLidsToOpen 38 = .ok (.iaload, 1) := by decide +kernel
theorem dX9_twoLidsToOpen_39 : decode cX9_twoLidsToOpen 39 = .ok (.iconst 1, 1) := by decide +kernel
theorem dX9_twoLidsToOpen_40 : decode cX9_twoLidsToOpen 40 = .ok (.if_icmp .ne 21, 3) := by decide +kernel
theorem dX9_twoLidsToOpen_43 : decode cX9_twoLidsToOpen 43 = .ok (.aload_n 0, 1) := by decide +kernel
theorem dX9_twoLidsToOpen_44 : decode cX9_twoLidsToOpen 44 = .ok (.getfield 35, 3) := by decide +kernel
theorem dX9_twoLidsToOpen_47 : decode cX9_twoLidsToOpen 47 = .ok (.getfield 404, 3) := by decide +kernel
theorem dX9_twoLidsToOpen_50 : decode cX9_twoLidsToOpen 50 = .ok (.iload 4, 2) := by decide +kernel
theorem dX9_twoLidsToOpen_52 : decode cX9_twoLidsToOpen 52 = .ok (.iaload, 1) := by decide +kernel
theorem dX9_twoLidsToOpen_53 : decode cX9_twoLidsToOpen 53 = .ok (.iconst 1, 1) := by decide +kernel
theorem dX9_twoLidsToOpen_54 : decode cX9_twoLidsToOpen 54 = .ok (.if_icmp .ne 7, 3) := by decide +kernel
theorem dX9_twoLidsToOpen_57 : decode cX9_twoLidsToOpen 57 = .ok (.iconst 1, 1) := by decide +kernel
theorem dX9_twoLidsToOpen_58 : decode cX9_twoLidsToOpen 58 = .ok (.goto 4, 3) := by decide +kernel
theorem dX9_twoLidsToOpen_61 : decode cX9_twoLidsToOpen 61 = .ok (.iconst 0, 1) := by decide +kernel
theorem dX9_twoLidsToOpen_62 : decode cX9_twoLidsToOpen 62 = .ok (.istore 5, 2) := by decide +kernel
theorem dX9_twoLidsToOpen_64 : decode cX9_twoLidsToOpen 64 = .ok (.iload 5, 2) := by decide +kernel
theorem dX9_twoLidsToOpen_66 : decode cX9_twoLidsToOpen 66 = .ok (.ifCond .eq 39, 3) := by decide +kernel
theorem dX9_twoLidsToOpen_69 : decode cX9_twoLidsToOpen 69 = .ok (.aload_n 0, 1) := by decide +kernel
theorem dX9_twoLidsToOpen_70 : decode cX9_twoLidsToOpen 70 = .ok (.iload_n 1, 1) := by decide +kernel
theorem dX9_twoLidsToOpen_71 : decode cX9_twoLidsToOpen 71 = .ok (.iconst 1, 1) := by decide +kernel
theorem dX9_twoLidsToOpen_72 : decode cX9_twoLidsToOpen 72 = .ok (.iload_n 3, 1) := by decide +kernel
theorem dX9_twoLidsToOpen_73 : decode cX9_twoLidsToOpen 73 = .ok (.ishl, 1) := by decide +kernel
theorem dX9_twoLidsToOpen_74 : decode cX9_twoLidsToOpen 74 = .ok (.iconst 1, 1) := by decide +kernel
theorem dX9_twoLidsToOpen_75 : decode cX9_twoLidsToOpen 75 = .ok (.iload 4, 2) := by decide +kernel
theorem dX9_twoLidsToOpen_77 : decode cX9_twoLidsToOpen 77 = .ok (.ishl, 1) := by decide +kernel
theorem dX9_twoLidsToOpen_78 : decode cX9_twoLidsToOpen 78 = .ok (.ior, 1) := by decide +kernel
theorem dX9_twoLidsToOpen_79 : decode cX9_twoLidsToOpen 79 = .ok (.invokevirtual 212, 3) := by decide +kernel
theorem dX9_twoLidsToOpen_82 : decode cX9_twoLidsToOpen 82 = .ok (.ifCond .eq 23, 3) := by decide +kernel
theorem dX9_twoLidsToOpen_85 : decode cX9_twoLidsToOpen 85 = .ok (.iload_n 2, 1) := by decide +kernel
theorem dX9_twoLidsToOpen_86 : decode cX9_twoLidsToOpen 86 = .ok (.iconst (-1), 1) := by decide +kernel
theorem dX9_twoLidsToOpen_87 : decode cX9_twoLidsToOpen 87 = .ok (.if_icmp .ne 7, 3) := by decide +kernel
theorem dX9_twoLidsToOpen_90 : decode cX9_twoLidsToOpen 90 = .ok (.iconst 2, 1) := by decide +kernel
theorem dX9_twoLidsToOpen_91 : decode cX9_twoLidsToOpen 91 = .ok (.goto 13, 3) := by decide +kernel
theorem dX9_twoLidsToOpen_94 : decode cX9_twoLidsToOpen 94 = .ok (.iload_n 2, 1) := by decide +kernel
theorem dX9_twoLidsToOpen_95 : decode cX9_twoLidsToOpen 95 = .ok (.ifCond .ne 7, 3) := by decide +kernel
theorem dX9_twoLidsToOpen_98 : decode cX9_twoLidsToOpen 98 = .ok (.iload_n 3, 1) := by decide +kernel
theorem dX9_twoLidsToOpen_99 : decode cX9_twoLidsToOpen 99 = .ok (.goto 5, 3) := by decide +kernel
theorem dX9_twoLidsToOpen_102 : decode cX9_twoLidsToOpen 102 = .ok (.iload 4, 2) := by decide +kernel
theorem dX9_twoLidsToOpen_104 : decode cX9_twoLidsToOpen 104 = .ok (.ireturn, 1) := by decide +kernel
theorem dX9_twoLidsToOpen_105 : decode cX9_twoLidsToOpen 105 = .ok (.iinc 4 1, 3) := by decide +kernel
theorem dX9_twoLidsToOpen_108 : decode cX9_twoLidsToOpen 108 = .ok (.goto (-90), 3) := by decide +kernel
theorem dX9_twoLidsToOpen_111 : decode cX9_twoLidsToOpen 111 = .ok (.iinc 3 1, 3) := by decide +kernel
theorem dX9_twoLidsToOpen_114 : decode cX9_twoLidsToOpen 114 = .ok (.goto (-112), 3) := by decide +kernel
theorem dX9_twoLidsToOpen_117 : decode cX9_twoLidsToOpen 117 = .ok (.iconst (-1), 1) := by decide +kernel
theorem dX9_twoLidsToOpen_118 : decode cX9_twoLidsToOpen 118 = .ok (.ireturn, 1) := by decide +kernel
noncomputable def F9_twoLidsToOpen_b85 (v1 : Int32) (v2 : Int32) (a3 : Int32) (a4 : Int32) (M : Mem) : Option (Int32 × Mem) :=
  (if v2 = (-1 : Int32) then some ((2 : Int32), M) else (if v2 = (0 : Int32) then some (a3, M) else some (a4, M)))
noncomputable def F9_twoLidsToOpen_b111 (kh : Int32 → Mem → Option (Int32 × Mem)) (kx85 : Int32 → Int32 → Mem → Option (Int32 × Mem)) (v1 : Int32) (v2 : Int32) (a3 : Int32) (M : Mem) : Option (Int32 × Mem) :=
  kh (a3 + (1 : Int32)) M
noncomputable def F9_twoLidsToOpen_b105 (kh : Int32 → Int32 → Mem → Option (Int32 × Mem)) (kx85 : Int32 → Int32 → Mem → Option (Int32 × Mem)) (kx111 : Int32 → Mem → Option (Int32 × Mem)) (v1 : Int32) (v2 : Int32) (a3 : Int32) (a4 : Int32) (M : Mem) : Option (Int32 × Mem) :=
  kh a3 (a4 + (1 : Int32)) M
noncomputable def F9_twoLidsToOpen_b62 (kh : Int32 → Int32 → Mem → Option (Int32 × Mem)) (kx85 : Int32 → Int32 → Mem → Option (Int32 × Mem)) (kx111 : Int32 → Mem → Option (Int32 × Mem)) (v1 : Int32) (v2 : Int32) (a3 : Int32) (a4 : Int32) (s0 : Int32) (M : Mem) : Option (Int32 × Mem) :=
  (if s0 = (0 : Int32) then (F9_twoLidsToOpen_b105 kh kx85 kx111 v1 v2) a3 a4 M else ((F9_allHeardWithout v1 (((1 : Int32) <<< (a3 &&& (31 : Int32))) ||| ((1 : Int32) <<< (a4 &&& (31 : Int32)))) M).bind (fun q4 => (if q4.1 = (0 : Int32) then (F9_twoLidsToOpen_b105 kh kx85 kx111 v1 v2) a3 a4 q4.2 else kx85 a3 a4 q4.2))))
noncomputable def F9_twoLidsToOpen_b61 (kh : Int32 → Int32 → Mem → Option (Int32 × Mem)) (kx85 : Int32 → Int32 → Mem → Option (Int32 × Mem)) (kx111 : Int32 → Mem → Option (Int32 × Mem)) (v1 : Int32) (v2 : Int32) (a3 : Int32) (a4 : Int32) (M : Mem) : Option (Int32 × Mem) :=
  (F9_twoLidsToOpen_b62 kh kx85 kx111 v1 v2) a3 a4 (0 : Int32) M
noncomputable def F9_twoLidsToOpen_p18 (kh : Int32 → Int32 → Mem → Option (Int32 × Mem)) (kx85 : Int32 → Int32 → Mem → Option (Int32 × Mem)) (kx111 : Int32 → Mem → Option (Int32 × Mem)) (v1 : Int32) (v2 : Int32) (a3 : Int32) (a4 : Int32) (M : Mem) : Option (Int32 × Mem) :=
  (if (M 17 3) ≤ a4 then kx111 a3 M else (ck a3 8 (if (M 18 a3.toNatClampNeg) = (1 : Int32) then (ck a4 8 (if (M 18 a4.toNatClampNeg) = (1 : Int32) then (F9_twoLidsToOpen_b62 kh kx85 kx111 v1 v2) a3 a4 (1 : Int32) M else (F9_twoLidsToOpen_b61 kh kx85 kx111 v1 v2) a3 a4 M)) else (F9_twoLidsToOpen_b61 kh kx85 kx111 v1 v2) a3 a4 M)))
noncomputable def F9_twoLidsToOpen_h18 (kx85 : Int32 → Int32 → Mem → Option (Int32 × Mem)) (kx111 : Int32 → Mem → Option (Int32 × Mem)) (v1 : Int32) (v2 : Int32) : Nat → Int32 → Int32 → Mem → Option (Int32 × Mem)
  | 0, _, _, _ => none
  | n + 1, a3, a4, M => F9_twoLidsToOpen_p18 (F9_twoLidsToOpen_h18 kx85 kx111 v1 v2 n) kx85 kx111 v1 v2 a3 a4 M
noncomputable def F9_twoLidsToOpen_p2 (kh : Int32 → Mem → Option (Int32 × Mem)) (kx85 : Int32 → Int32 → Mem → Option (Int32 × Mem)) (v1 : Int32) (v2 : Int32) (a3 : Int32) (M : Mem) : Option (Int32 × Mem) :=
  (if (M 17 3) ≤ a3 then some ((-1 : Int32), M) else (F9_twoLidsToOpen_h18 kx85 (F9_twoLidsToOpen_b111 kh kx85 v1 v2) v1 v2 FU) a3 (a3 + (1 : Int32)) M)
noncomputable def F9_twoLidsToOpen_h2 (kx85 : Int32 → Int32 → Mem → Option (Int32 × Mem)) (v1 : Int32) (v2 : Int32) : Nat → Int32 → Mem → Option (Int32 × Mem)
  | 0, _, _ => none
  | n + 1, a3, M => F9_twoLidsToOpen_p2 (F9_twoLidsToOpen_h2 kx85 v1 v2 n) kx85 v1 v2 a3 M
noncomputable def F9_twoLidsToOpen (v1 : Int32) (v2 : Int32) (mc : Mem) : Option (Int32 × Mem) :=
  (F9_twoLidsToOpen_h2 (F9_twoLidsToOpen_b85 v1 v2) v1 v2 FU) (0 : Int32) mc
set_option maxHeartbeats 4000000 in
set_option maxRecDepth 100000 in
theorem kX9_twoLidsToOpen (l : Launch) (g : GG) (v1 : Int32) (v2 : Int32) (mc mm : Mem) (q : Int32 × Mem) (hF : F9_twoLidsToOpen v1 v2 mc = some q) : KI l yX9_twoLidsToOpen cX9_twoLidsToOpen 6 .int 3 79 g [.ref (g.1 0), .int v1, .int v2] mc mm q.1 (q.2, mm) := by
  intro sz
  refine x_start (Qc := fun z => QI g z q.1 (q.2, mm)) (by decide +kernel) (Nat.le_of_ble_eq_true rfl) ?_ sz
  intro p e s m args below meth c ls Z hr hlk hP hl
  have hx := Z.1.1
  have hb := Z.1.2.1
  have hown := Z.1.2.2.2.1
  have hts := Z.1.2.2.2.2
  have hS : va_S (AA g s.heap.size) s.heap s.heap [] := va_S.rf
  have hl : lv_has ls 6 [(0, .ref (g.1 0)), (1, .int v1), (2, .int v2)] := hl
  unfold F9_twoLidsToOpen at hF
  have hb85 : ∀ (a3 : Int32) (a4 : Int32) (M : Mem), F9_twoLidsToOpen_b85 v1 v2 a3 a4 M = some q → ∀ (H : Heap) (locs : List Loc) (ls : Array Slot), lv_has ls 6 [(2, .int v2), (3, .int a3), (4, .int a4)] → va_P g.2.2.1 vwCl (wL g M mm) H → va_S (AA g s.heap.size) s.heap H locs → W p l e { frames := 3, cells := 0, slots := 0, locals := 79 } s m args below meth c H locs 0 0 (MQ below (QI g s.heap.size q.1 (q.2, mm)) args s 0 0 (AA g s.heap.size)) (F0 m 85 ls []) := by
    intro a3 a4 M hF H locs ls hl hP hS
    unfold F9_twoLidsToOpen_b85 at hF
    refine lv_iload_n hx hb dX9_twoLidsToOpen_85 rfl (lv_at hl 0 rfl) ?_
    refine lv_iconst (v := (-1 : Int32)) hx hb dX9_twoLidsToOpen_86 ic_m1 ?_
    refine lv_icmp_ne (tgt := 94) hx hb dX9_twoLidsToOpen_87 rfl (fun hc => ?_) (fun hc => ?_)
    · have hF := (if_neg hc).symm.trans hF
      refine lv_iload_n hx hb dX9_twoLidsToOpen_94 rfl (lv_at hl 0 rfl) ?_
      refine lv_if_ne (tgt := 102) hx hb dX9_twoLidsToOpen_95 rfl (fun hc => ?_) (fun hc => ?_)
      · have hF := (if_neg hc).symm.trans hF
        refine lv_iload hx hb dX9_twoLidsToOpen_102 (lv_at hl 2 rfl) ?_
        exact ret_IWC Z hr hlk hP hS hF dX9_twoLidsToOpen_104
      · have hF := (if_pos hc).symm.trans hF
        refine lv_iload_n hx hb dX9_twoLidsToOpen_98 rfl (lv_at hl 1 rfl) ?_
        refine lv_goto (tgt := 104) hx hb dX9_twoLidsToOpen_99 rfl ?_
        exact ret_IWC Z hr hlk hP hS hF dX9_twoLidsToOpen_104
    · have hF := (if_pos hc).symm.trans hF
      refine lv_iconst (v := (2 : Int32)) hx hb dX9_twoLidsToOpen_90 ic_2 ?_
      refine lv_goto (tgt := 104) hx hb dX9_twoLidsToOpen_91 rfl ?_
      exact ret_IWC Z hr hlk hP hS hF dX9_twoLidsToOpen_104
  have hL2 : ∀ (kx85 : Int32 → Int32 → Mem → Option (Int32 × Mem)), (∀ (a3 : Int32) (a4 : Int32) (M : Mem), kx85 a3 a4 M = some q → ∀ (H : Heap) (locs : List Loc) (ls : Array Slot), lv_has ls 6 [(2, .int v2), (3, .int a3), (4, .int a4)] → va_P g.2.2.1 vwCl (wL g M mm) H → va_S (AA g s.heap.size) s.heap H locs → W p l e { frames := 3, cells := 0, slots := 0, locals := 79 } s m args below meth c H locs 0 0 (MQ below (QI g s.heap.size q.1 (q.2, mm)) args s 0 0 (AA g s.heap.size)) (F0 m 85 ls [])) → ∀ n : Nat, ∀ (a3 : Int32) (M : Mem), F9_twoLidsToOpen_h2 kx85 v1 v2 n a3 M = some q → ∀ (H : Heap) (locs : List Loc) (ls : Array Slot), lv_has ls 6 [(0, .ref (g.1 0)), (1, .int v1), (2, .int v2), (3, .int a3)] → va_P g.2.2.1 vwCl (wL g M mm) H → va_S (AA g s.heap.size) s.heap H locs → W p l e { frames := 3, cells := 0, slots := 0, locals := 79 } s m args below meth c H locs 0 0 (MQ below (QI g s.heap.size q.1 (q.2, mm)) args s 0 0 (AA g s.heap.size)) (F0 m 2 ls []) := by
    intro kx85 hx85 n
    induction n with
    | zero => intro a3 M hF H locs ls hl hP hS; exact absurd hF (fun z => nomatch (show (none : Option _) = some q from z))
    | succ n ih =>
      generalize hkh : F9_twoLidsToOpen_h2 kx85 v1 v2 n = kh at ih
      have hb111 : ∀ (a3 : Int32) (M : Mem), F9_twoLidsToOpen_b111 kh kx85 v1 v2 a3 M = some q → ∀ (H : Heap) (locs : List Loc) (ls : Array Slot), lv_has ls 6 [(0, .ref (g.1 0)), (1, .int v1), (2, .int v2), (3, .int a3)] → va_P g.2.2.1 vwCl (wL g M mm) H → va_S (AA g s.heap.size) s.heap H locs → W p l e { frames := 3, cells := 0, slots := 0, locals := 79 } s m args below meth c H locs 0 0 (MQ below (QI g s.heap.size q.1 (q.2, mm)) args s 0 0 (AA g s.heap.size)) (F0 m 111 ls []) := by
        intro a3 M hF H locs ls hl hP hS
        unfold F9_twoLidsToOpen_b111 at hF
        refine lv_iinc (lv' := [(3, .int (a3 + (1 : Int32))), (0, .ref (g.1 0)), (1, .int v1), (2, .int v2)]) (v := (a3 + (1 : Int32))) hx hb dX9_twoLidsToOpen_111 hl (k := 3) rfl (io_1 _) (Nat.le_of_ble_eq_true rfl) rfl (fun ls hl => ?_)
        refine lv_goto (tgt := 2) hx hb dX9_twoLidsToOpen_114 rfl ?_
        exact ih _ _ hF _ _ _ (lv_sub hl [1, 2, 3, 0] rfl) hP hS
      have hL18 : ∀ (kx85 : Int32 → Int32 → Mem → Option (Int32 × Mem)) (kx111 : Int32 → Mem → Option (Int32 × Mem)), (∀ (a3 : Int32) (a4 : Int32) (M : Mem), kx85 a3 a4 M = some q → ∀ (H : Heap) (locs : List Loc) (ls : Array Slot), lv_has ls 6 [(2, .int v2), (3, .int a3), (4, .int a4)] → va_P g.2.2.1 vwCl (wL g M mm) H → va_S (AA g s.heap.size) s.heap H locs → W p l e { frames := 3, cells := 0, slots := 0, locals := 79 } s m args below meth c H locs 0 0 (MQ below (QI g s.heap.size q.1 (q.2, mm)) args s 0 0 (AA g s.heap.size)) (F0 m 85 ls [])) → (∀ (a3 : Int32) (M : Mem), kx111 a3 M = some q → ∀ (H : Heap) (locs : List Loc) (ls : Array Slot), lv_has ls 6 [(0, .ref (g.1 0)), (1, .int v1), (2, .int v2), (3, .int a3)] → va_P g.2.2.1 vwCl (wL g M mm) H → va_S (AA g s.heap.size) s.heap H locs → W p l e { frames := 3, cells := 0, slots := 0, locals := 79 } s m args below meth c H locs 0 0 (MQ below (QI g s.heap.size q.1 (q.2, mm)) args s 0 0 (AA g s.heap.size)) (F0 m 111 ls [])) → ∀ n : Nat, ∀ (a3 : Int32) (a4 : Int32) (M : Mem), F9_twoLidsToOpen_h18 kx85 kx111 v1 v2 n a3 a4 M = some q → ∀ (H : Heap) (locs : List Loc) (ls : Array Slot), lv_has ls 6 [(0, .ref (g.1 0)), (1, .int v1), (2, .int v2), (3, .int a3), (4, .int a4)] → va_P g.2.2.1 vwCl (wL g M mm) H → va_S (AA g s.heap.size) s.heap H locs → W p l e { frames := 3, cells := 0, slots := 0, locals := 79 } s m args below meth c H locs 0 0 (MQ below (QI g s.heap.size q.1 (q.2, mm)) args s 0 0 (AA g s.heap.size)) (F0 m 18 ls []) := by
        intro kx85 kx111 hx85 hx111 n
        induction n with
        | zero => intro a3 a4 M hF H locs ls hl hP hS; exact absurd hF (fun z => nomatch (show (none : Option _) = some q from z))
        | succ n ih =>
          generalize hkh : F9_twoLidsToOpen_h18 kx85 kx111 v1 v2 n = kh at ih
          have hb105 : ∀ (a3 : Int32) (a4 : Int32) (M : Mem), F9_twoLidsToOpen_b105 kh kx85 kx111 v1 v2 a3 a4 M = some q → ∀ (H : Heap) (locs : List Loc) (ls : Array Slot), lv_has ls 6 [(0, .ref (g.1 0)), (1, .int v1), (2, .int v2), (3, .int a3), (4, .int a4)] → va_P g.2.2.1 vwCl (wL g M mm) H → va_S (AA g s.heap.size) s.heap H locs → W p l e { frames := 3, cells := 0, slots := 0, locals := 79 } s m args below meth c H locs 0 0 (MQ below (QI g s.heap.size q.1 (q.2, mm)) args s 0 0 (AA g s.heap.size)) (F0 m 105 ls []) := by
            intro a3 a4 M hF H locs ls hl hP hS
            unfold F9_twoLidsToOpen_b105 at hF
            refine lv_iinc (lv' := [(4, .int (a4 + (1 : Int32))), (0, .ref (g.1 0)), (1, .int v1), (2, .int v2), (3, .int a3)]) (v := (a4 + (1 : Int32))) hx hb dX9_twoLidsToOpen_105 hl (k := 4) rfl (io_1 _) (Nat.le_of_ble_eq_true rfl) rfl (fun ls hl => ?_)
            refine lv_goto (tgt := 18) hx hb dX9_twoLidsToOpen_108 rfl ?_
            exact ih _ _ _ hF _ _ _ (lv_sub hl [1, 2, 3, 4, 0] rfl) hP hS
          have hb62 : ∀ (a3 : Int32) (a4 : Int32) (s0 : Int32) (M : Mem), F9_twoLidsToOpen_b62 kh kx85 kx111 v1 v2 a3 a4 s0 M = some q → ∀ (H : Heap) (locs : List Loc) (ls : Array Slot), lv_has ls 6 [(0, .ref (g.1 0)), (1, .int v1), (2, .int v2), (3, .int a3), (4, .int a4)] → va_P g.2.2.1 vwCl (wL g M mm) H → va_S (AA g s.heap.size) s.heap H locs → W p l e { frames := 3, cells := 0, slots := 0, locals := 79 } s m args below meth c H locs 0 0 (MQ below (QI g s.heap.size q.1 (q.2, mm)) args s 0 0 (AA g s.heap.size)) (F0 m 62 ls [.int s0]) := by
            intro a3 a4 s0 M hF H locs ls hl hP hS
            unfold F9_twoLidsToOpen_b62 at hF
            refine lv_istore (lv' := [(5, .int s0), (0, .ref (g.1 0)), (1, .int v1), (2, .int v2), (3, .int a3), (4, .int a4)]) hx hb dX9_twoLidsToOpen_62 hl (Nat.le_of_ble_eq_true rfl) rfl (fun ls hl => ?_)
            refine lv_iload hx hb dX9_twoLidsToOpen_64 (lv_at hl 0 rfl) ?_
            refine lv_if_eq (tgt := 105) hx hb dX9_twoLidsToOpen_66 rfl (fun hc => ?_) (fun hc => ?_)
            · have hF := (if_pos hc).symm.trans hF
              exact hb105 _ _ _ hF _ _ _ (lv_sub hl [1, 2, 3, 4, 5] rfl) hP hS
            · have hF := (if_neg hc).symm.trans hF
              refine lv_aload_n hx hb dX9_twoLidsToOpen_69 rfl (lv_at hl 1 rfl) ?_
              refine lv_iload_n hx hb dX9_twoLidsToOpen_70 rfl (lv_at hl 2 rfl) ?_
              refine lv_iconst (v := (1 : Int32)) hx hb dX9_twoLidsToOpen_71 ic_1 ?_
              refine lv_iload_n hx hb dX9_twoLidsToOpen_72 rfl (lv_at hl 4 rfl) ?_
              refine lv_ishl hx hb dX9_twoLidsToOpen_73 ?_
              refine lv_iconst (v := (1 : Int32)) hx hb dX9_twoLidsToOpen_74 ic_1 ?_
              refine lv_iload hx hb dX9_twoLidsToOpen_75 (lv_at hl 5 rfl) ?_
              refine lv_ishl hx hb dX9_twoLidsToOpen_77 ?_
              refine lv_ior hx hb dX9_twoLidsToOpen_78 ?_
              obtain ⟨q4, hq4, hF⟩ := bd_ok hF
              refine xX9_allHeardWithout Z hP hS hq4 wd_29_20 hl.1 (Nat.le_of_ble_eq_true rfl) ⟨Nat.le_of_ble_eq_true rfl, Nat.le_of_ble_eq_true rfl⟩ dX9_twoLidsToOpen_79 (fun H locs hP hS => ?_)
              refine lv_if_eq (tgt := 105) hx hb dX9_twoLidsToOpen_82 rfl (fun hc => ?_) (fun hc => ?_)
              · have hF := (if_pos hc).symm.trans hF
                exact hb105 _ _ _ hF _ _ _ (lv_sub hl [1, 2, 3, 4, 5] rfl) hP hS
              · have hF := (if_neg hc).symm.trans hF
                exact hx85 _ _ _ hF _ _ _ (lv_sub hl [3, 4, 5] rfl) hP hS
          have hb61 : ∀ (a3 : Int32) (a4 : Int32) (M : Mem), F9_twoLidsToOpen_b61 kh kx85 kx111 v1 v2 a3 a4 M = some q → ∀ (H : Heap) (locs : List Loc) (ls : Array Slot), lv_has ls 6 [(0, .ref (g.1 0)), (1, .int v1), (2, .int v2), (3, .int a3), (4, .int a4)] → va_P g.2.2.1 vwCl (wL g M mm) H → va_S (AA g s.heap.size) s.heap H locs → W p l e { frames := 3, cells := 0, slots := 0, locals := 79 } s m args below meth c H locs 0 0 (MQ below (QI g s.heap.size q.1 (q.2, mm)) args s 0 0 (AA g s.heap.size)) (F0 m 61 ls []) := by
            intro a3 a4 M hF H locs ls hl hP hS
            unfold F9_twoLidsToOpen_b61 at hF
            refine lv_iconst (v := (0 : Int32)) hx hb dX9_twoLidsToOpen_61 ic_0 ?_
            exact hb62 _ _ _ _ hF _ _ _ (lv_sub hl [0, 1, 2, 3, 4] rfl) hP hS
          intro a3 a4 M hF H locs ls hl hP hS
          have hF : F9_twoLidsToOpen_p18 (F9_twoLidsToOpen_h18 kx85 kx111 v1 v2 n) kx85 kx111 v1 v2 a3 a4 M = some q := hF
          rw [hkh] at hF
          unfold F9_twoLidsToOpen_p18 at hF
          refine lv_iload hx hb dX9_twoLidsToOpen_18 (lv_at hl 4 rfl) ?_
          refine lv_aload_n hx hb dX9_twoLidsToOpen_20 rfl (lv_at hl 0 rfl) ?_
          refine gf9_3 Z hP wd_2_3 dX9_twoLidsToOpen_21 ?_
          refine gf2_3N Z hP ck_17 nf_12 dX9_twoLidsToOpen_24 ?_
          refine lv_icmp_ge (tgt := 111) hx hb dX9_twoLidsToOpen_27 rfl (fun hc => ?_) (fun hc => ?_)
          · have hF := (if_pos hc).symm.trans hF
            exact hx111 _ _ hF _ _ _ (lv_sub hl [0, 1, 2, 3] rfl) hP hS
          · have hF := (if_neg hc).symm.trans hF
            refine lv_aload_n hx hb dX9_twoLidsToOpen_30 rfl (lv_at hl 0 rfl) ?_
            refine gf9_3 Z hP wd_2_3 dX9_twoLidsToOpen_31 ?_
            refine gf2_0N Z hP ck_17 nf_27 dX9_twoLidsToOpen_34 ?_
            refine lv_iload_n hx hb dX9_twoLidsToOpen_37 rfl (lv_at hl 3 rfl) ?_
            obtain ⟨hi5, hF⟩ := ck_ok hF
            refine ra_ld Z hP (ia_2_0 ck_17) hi5 dX9_twoLidsToOpen_38 ?_
            refine lv_iconst (v := (1 : Int32)) hx hb dX9_twoLidsToOpen_39 ic_1 ?_
            refine lv_icmp_ne (tgt := 61) hx hb dX9_twoLidsToOpen_40 rfl (fun hc => ?_) (fun hc => ?_)
            · have hF := (if_neg hc).symm.trans hF
              exact hb61 _ _ _ hF _ _ _ (lv_sub hl [0, 1, 2, 3, 4] rfl) hP hS
            · have hF := (if_pos hc).symm.trans hF
              refine lv_aload_n hx hb dX9_twoLidsToOpen_43 rfl (lv_at hl 0 rfl) ?_
              refine gf9_3 Z hP wd_2_3 dX9_twoLidsToOpen_44 ?_
              refine gf2_0N Z hP ck_17 nf_27 dX9_twoLidsToOpen_47 ?_
              refine lv_iload hx hb dX9_twoLidsToOpen_50 (lv_at hl 4 rfl) ?_
              obtain ⟨hi6, hF⟩ := ck_ok hF
              refine ra_ld Z hP (ia_2_0 ck_17) hi6 dX9_twoLidsToOpen_52 ?_
              refine lv_iconst (v := (1 : Int32)) hx hb dX9_twoLidsToOpen_53 ic_1 ?_
              refine lv_icmp_ne (tgt := 61) hx hb dX9_twoLidsToOpen_54 rfl (fun hc => ?_) (fun hc => ?_)
              · have hF := (if_neg hc).symm.trans hF
                exact hb61 _ _ _ hF _ _ _ (lv_sub hl [0, 1, 2, 3, 4] rfl) hP hS
              · have hF := (if_pos hc).symm.trans hF
                refine lv_iconst (v := (1 : Int32)) hx hb dX9_twoLidsToOpen_57 ic_1 ?_
                refine lv_goto (tgt := 62) hx hb dX9_twoLidsToOpen_58 rfl ?_
                exact hb62 _ _ _ _ hF _ _ _ (lv_sub hl [0, 1, 2, 3, 4] rfl) hP hS
      intro a3 M hF H locs ls hl hP hS
      have hF : F9_twoLidsToOpen_p2 (F9_twoLidsToOpen_h2 kx85 v1 v2 n) kx85 v1 v2 a3 M = some q := hF
      rw [hkh] at hF
      unfold F9_twoLidsToOpen_p2 at hF
      refine lv_iload_n hx hb dX9_twoLidsToOpen_2 rfl (lv_at hl 3 rfl) ?_
      refine lv_aload_n hx hb dX9_twoLidsToOpen_3 rfl (lv_at hl 0 rfl) ?_
      refine gf9_3 Z hP wd_2_3 dX9_twoLidsToOpen_4 ?_
      refine gf2_3N Z hP ck_17 nf_12 dX9_twoLidsToOpen_7 ?_
      refine lv_icmp_ge (tgt := 117) hx hb dX9_twoLidsToOpen_10 rfl (fun hc => ?_) (fun hc => ?_)
      · have hF := (if_pos hc).symm.trans hF
        refine lv_iconst (v := (-1 : Int32)) hx hb dX9_twoLidsToOpen_117 ic_m1 ?_
        exact ret_IWC Z hr hlk hP hS hF dX9_twoLidsToOpen_118
      · have hF := (if_neg hc).symm.trans hF
        refine lv_iload_n hx hb dX9_twoLidsToOpen_13 rfl (lv_at hl 3 rfl) ?_
        refine lv_iconst (v := (1 : Int32)) hx hb dX9_twoLidsToOpen_14 ic_1 ?_
        refine lv_iadd hx hb dX9_twoLidsToOpen_15 ?_
        refine lv_istore (lv' := [(4, .int (a3 + (1 : Int32))), (0, .ref (g.1 0)), (1, .int v1), (2, .int v2), (3, .int a3)]) hx hb dX9_twoLidsToOpen_16 hl (Nat.le_of_ble_eq_true rfl) rfl (fun ls hl => ?_)
        exact (hL18 _ _ hx85 hb111 FU) _ _ _ hF _ _ _ (lv_sub hl [1, 2, 3, 4, 0] rfl) hP hS
  refine lv_iconst (v := (0 : Int32)) hx hb dX9_twoLidsToOpen_0 ic_0 ?_
  refine lv_istore_n (lv' := [(3, .int (0 : Int32)), (0, .ref (g.1 0)), (1, .int v1), (2, .int v2)]) hx hb dX9_twoLidsToOpen_1 rfl hl (Nat.le_of_ble_eq_true rfl) rfl (fun ls hl => ?_)
  exact (hL2 _ hb85 FU) _ _ hF _ _ _ (lv_sub hl [1, 2, 3, 0] rfl) hP hS
theorem xX9_twoLidsToOpen {p : Program} {l : Launch} {e : Env} {R : Room} {s : State} {m : MethodId} {args : Array Value} {below : List Frame} {meth : Method} {c : Code} {H : Heap} {locs : List Loc} {Q : State → Prop} {cc : ByteArray} {nL : Nat} {own : String} {g : GG} {pc index : Nat} {ls : Array Slot} {rest : List Value} {mc mm : Mem} (Z : ZZ p s m args c cc nL own g) (hP : va_P g.2.2.1 vwCl (wL g mc mm) H) (hS : va_S (AA g s.heap.size) s.heap H locs) {v1 : Int32} {v2 : Int32} {q : Int32 × Mem} (hq : F9_twoLidsToOpen v1 v2 mc = some q) (hlk : Cond.methodLink own index yX9_twoLidsToOpen ∈ wsL_law) (hsz : ls.size = nL) (hro : (rest.map fun v => v.category).sum ≤ 8) (hR : 3 + 1 ≤ R.frames ∧ 8 + (6 + 11) + 79 ≤ R.locals) (hdg : decode cc pc = .ok (.invokevirtual index, 3)) (kk : ∀ (H : Heap) (locs : List Loc), va_P g.2.2.1 vwCl (wL g q.2 mm) H → va_S (AA g s.heap.size) s.heap H locs → W p l e R s m args below meth c H locs 0 0 Q (F0 m (pc + 3) ls (.int q.1 :: rest))) : W p l e R s m args below meth c H locs 0 0 Q (F0 m pc ls (.int v2 :: .int v1 :: .ref (g.1 0) :: rest)) :=
  x_VI Z hP hS (kX9_twoLidsToOpen l g v1 v2 mc mm q hq) (isO_w ck_0) (ci := 9) (by decide) rfl rfl mf_X9_twoLidsToOpen mv_X9_twoLidsToOpen hlk rfl rfl hsz hro hR hdg kk
theorem dX9_open_0 : decode cX9_open 0 = .ok (.iload_n 1, 1) := by decide +kernel
theorem dX9_open_1 : decode cX9_open 1 = .ok (.bipush 8, 2) := by decide +kernel
theorem dX9_open_3 : decode cX9_open 3 = .ok (.invokestatic 101, 3) := by decide +kernel
theorem dX9_open_6 : decode cX9_open 6 = .ok (.ifCond .eq 16, 3) := by decide +kernel
theorem dX9_open_9 : decode cX9_open 9 = .ok (.iload_n 2, 1) := by decide +kernel
theorem dX9_open_10 : decode cX9_open 10 = .ok (.iconst (-1), 1) := by decide +kernel
theorem dX9_open_11 : decode cX9_open 11 = .ok (.if_icmp .eq 14, 3) := by decide +kernel
theorem dX9_open_14 : decode cX9_open 14 = .ok (.iload_n 2, 1) := by decide +kernel
theorem dX9_open_15 : decode cX9_open 15 = .ok (.iconst 2, 1) := by decide +kernel
theorem dX9_open_16 : decode cX9_open 16 = .ok (.invokestatic 101, 3) := by decide +kernel
theorem dX9_open_19 : decode cX9_open 19 = .ok (.ifCond .ne 6, 3) := by decide +kernel
theorem dX9_open_22 : decode cX9_open 22 = .ok (.bipush (-2), 2) := by decide +kernel
theorem dX9_open_24 : decode cX9_open 24 = .ok (.ireturn, 1) := by decide +kernel
theorem dX9_open_25 : decode cX9_open 25 = .ok (.aload_n 0, 1) := by decide +kernel
theorem dX9_open_26 : decode cX9_open 26 = .ok (.iload_n 1, 1) := by decide +kernel
theorem dX9_open_27 : decode cX9_open 27 = .ok (.iconst 0, 1) := by decide +kernel
theorem dX9_open_28 : decode cX9_open 28 = .ok (.invokevirtual 212, 3) := by decide +kernel
theorem dX9_open_31 : decode cX9_open 31 = .ok (.ifCond .eq 14, 3) := by decide +kernel
theorem dX9_open_34 : decode cX9_open 34 = .ok (.iload_n 2, 1) := by decide +kernel
theorem dX9_open_35 : decode cX9_open 35 = .ok (.iconst (-1), 1) := by decide +kernel
theorem dX9_open_36 : decode cX9_open 36 = .ok (.if_icmp .ne 7, 3) := by decide +kernel
theorem dX9_open_39 : decode cX9_open 39 = .ok (.iconst 0, 1) := by decide +kernel
theorem dX9_open_40 : decode cX9_open 40 = .ok (.goto 4, 3) := by decide +kernel
theorem dX9_open_43 : decode cX9_open 43 = .ok (.iconst (-1), 1) := by decide +kernel
theorem dX9_open_44 : decode cX9_open 44 = .ok (.ireturn, 1) := by decide +kernel
theorem dX9_open_45 : decode cX9_open 45 = .ok (.aload_n 0, 1) := by decide +kernel
theorem dX9_open_46 : decode cX9_open 46 = .ok (.iload_n 1, 1) := by decide +kernel
theorem dX9_open_47 : decode cX9_open 47 = .ok (.invokevirtual 215, 3) := by decide +kernel
theorem dX9_open_50 : decode cX9_open 50 = .ok (.istore_n 3, 1) := by decide +kernel
theorem dX9_open_51 : decode cX9_open 51 = .ok (.iload_n 3, 1) := by decide +kernel
theorem dX9_open_52 : decode cX9_open 52 = .ok (.iconst (-1), 1) := by decide +kernel
theorem dX9_open_53 : decode cX9_open 53 = .ok (.if_icmp .eq 22, 3) := by decide +kernel
theorem dX9_open_56 : decode cX9_open 56 = .ok (.iload_n 2, 1) := by decide +kernel
theorem dX9_open_57 : decode cX9_open 57 = .ok (.iconst (-1), 1) := by decide +kernel
theorem dX9_open_58 : decode cX9_open 58 = .ok (.if_icmp .ne 7, 3) := by decide +kernel
theorem dX9_open_61 : decode cX9_open 61 = .ok (.iconst 1, 1) := by decide +kernel
theorem dX9_open_62 : decode cX9_open 62 = .ok (.goto 12, 3) := by decide +kernel
theorem dX9_open_65 : decode cX9_open 65 = .ok (.iload_n 2, 1) := by decide +kernel
theorem dX9_open_66 : decode cX9_open 66 = .ok (.ifCond .ne 7, 3) := by decide +kernel
theorem dX9_open_69 : decode cX9_open 69 = .ok (.iload_n 3, 1) := by decide +kernel
theorem dX9_open_70 : decode cX9_open 70 = .ok (.goto 4, 3) := by decide +kernel
theorem dX9_open_73 : decode cX9_open 73 = .ok (.iconst (-1), 1) := by decide +kernel
theorem dX9_open_74 : decode cX9_open 74 = .ok (.ireturn, 1) := by decide +kernel
theorem dX9_open_75 : decode cX9_open 75 = .ok (.aload_n 0, 1) := by decide +kernel
theorem dX9_open_76 : decode cX9_open 76 = .ok (.iload_n 1, 1) := by decide +kernel
theorem dX9_open_77 : decode cX9_open 77 = .ok (.iload_n 2, 1) := by decide +kernel
theorem dX9_open_78 : decode cX9_open 78 = .ok (.invokevirtual 218, 3) := by decide +kernel
theorem dX9_open_81 : decode cX9_open 81 = .ok (.ireturn, 1) := by decide +kernel
noncomputable def F9_open_b25 (v1 : Int32) (v2 : Int32) (M : Mem) : Option (Int32 × Mem) :=
  ((F9_allHeardWithout v1 (0 : Int32) M).bind (fun q6 => (if q6.1 = (0 : Int32) then ((F9_oneLidToOpen v1 q6.2).bind (fun q7 => (if q7.1 = (-1 : Int32) then ((F9_twoLidsToOpen v1 v2 q7.2).bind (fun q8 => (some (q8.1, q8.2)))) else (if v2 = (-1 : Int32) then some ((1 : Int32), q7.2) else (if v2 = (0 : Int32) then some (q7.1, q7.2) else some ((-1 : Int32), q7.2)))))) else (if v2 = (-1 : Int32) then some ((0 : Int32), q6.2) else some ((-1 : Int32), q6.2)))))
noncomputable def F9_open (v1 : Int32) (v2 : Int32) (mc : Mem) : Option (Int32 × Mem) :=
  ((F9_in v1 (8 : Int32)).bind (fun q9 => (if q9 = (0 : Int32) then some ((-2 : Int32), mc) else (if v2 = (-1 : Int32) then (F9_open_b25 v1 v2) mc else ((F9_in v2 (2 : Int32)).bind (fun q10 => (if q10 = (0 : Int32) then some ((-2 : Int32), mc) else (F9_open_b25 v1 v2) mc)))))))
set_option maxHeartbeats 4000000 in
set_option maxRecDepth 100000 in
theorem kX9_open (l : Launch) (g : GG) (v1 : Int32) (v2 : Int32) (mc mm : Mem) (q : Int32 × Mem) (hF : F9_open v1 v2 mc = some q) : KI l yX9_open cX9_open 4 .int 4 104 g [.ref (g.1 0), .int v1, .int v2] mc mm q.1 (q.2, mm) := by
  intro sz
  refine x_start (Qc := fun z => QI g z q.1 (q.2, mm)) (by decide +kernel) (Nat.le_of_ble_eq_true rfl) ?_ sz
  intro p e s m args below meth c ls Z hr hlk hP hl
  have hx := Z.1.1
  have hb := Z.1.2.1
  have hown := Z.1.2.2.2.1
  have hts := Z.1.2.2.2.2
  have hS : va_S (AA g s.heap.size) s.heap s.heap [] := va_S.rf
  have hl : lv_has ls 4 [(0, .ref (g.1 0)), (1, .int v1), (2, .int v2)] := hl
  unfold F9_open at hF
  have hb25 : ∀  (M : Mem), F9_open_b25 v1 v2 M = some q → ∀ (H : Heap) (locs : List Loc) (ls : Array Slot), lv_has ls 4 [(0, .ref (g.1 0)), (1, .int v1), (2, .int v2)] → va_P g.2.2.1 vwCl (wL g M mm) H → va_S (AA g s.heap.size) s.heap H locs → W p l e { frames := 4, cells := 0, slots := 0, locals := 104 } s m args below meth c H locs 0 0 (MQ below (QI g s.heap.size q.1 (q.2, mm)) args s 0 0 (AA g s.heap.size)) (F0 m 25 ls []) := by
    intro M hF H locs ls hl hP hS
    unfold F9_open_b25 at hF
    refine lv_aload_n hx hb dX9_open_25 rfl (lv_at hl 0 rfl) ?_
    refine lv_iload_n hx hb dX9_open_26 rfl (lv_at hl 1 rfl) ?_
    refine lv_iconst (v := (0 : Int32)) hx hb dX9_open_27 ic_0 ?_
    obtain ⟨q6, hq6, hF⟩ := bd_ok hF
    refine xX9_allHeardWithout Z hP hS hq6 wd_29_20 hl.1 (Nat.le_of_ble_eq_true rfl) ⟨Nat.le_of_ble_eq_true rfl, Nat.le_of_ble_eq_true rfl⟩ dX9_open_28 (fun H locs hP hS => ?_)
    refine lv_if_eq (tgt := 45) hx hb dX9_open_31 rfl (fun hc => ?_) (fun hc => ?_)
    · have hF := (if_pos hc).symm.trans hF
      refine lv_aload_n hx hb dX9_open_45 rfl (lv_at hl 0 rfl) ?_
      refine lv_iload_n hx hb dX9_open_46 rfl (lv_at hl 1 rfl) ?_
      obtain ⟨q7, hq7, hF⟩ := bd_ok hF
      refine xX9_oneLidToOpen Z hP hS hq7 wd_30_0 hl.1 (Nat.le_of_ble_eq_true rfl) ⟨Nat.le_of_ble_eq_true rfl, Nat.le_of_ble_eq_true rfl⟩ dX9_open_47 (fun H locs hP hS => ?_)
      refine lv_istore_n (lv' := [(3, .int q7.1), (0, .ref (g.1 0)), (1, .int v1), (2, .int v2)]) hx hb dX9_open_50 rfl hl (Nat.le_of_ble_eq_true rfl) rfl (fun ls hl => ?_)
      refine lv_iload_n hx hb dX9_open_51 rfl (lv_at hl 0 rfl) ?_
      refine lv_iconst (v := (-1 : Int32)) hx hb dX9_open_52 ic_m1 ?_
      refine lv_icmp_eq (tgt := 75) hx hb dX9_open_53 rfl (fun hc => ?_) (fun hc => ?_)
      · have hF := (if_pos hc).symm.trans hF
        refine lv_aload_n hx hb dX9_open_75 rfl (lv_at hl 1 rfl) ?_
        refine lv_iload_n hx hb dX9_open_76 rfl (lv_at hl 2 rfl) ?_
        refine lv_iload_n hx hb dX9_open_77 rfl (lv_at hl 3 rfl) ?_
        obtain ⟨q8, hq8, hF⟩ := bd_ok hF
        refine xX9_twoLidsToOpen Z hP hS hq8 wd_30_4 hl.1 (Nat.le_of_ble_eq_true rfl) ⟨Nat.le_of_ble_eq_true rfl, Nat.le_of_ble_eq_true rfl⟩ dX9_open_78 (fun H locs hP hS => ?_)
        exact ret_IWC Z hr hlk hP hS hF dX9_open_81
      · have hF := (if_neg hc).symm.trans hF
        refine lv_iload_n hx hb dX9_open_56 rfl (lv_at hl 3 rfl) ?_
        refine lv_iconst (v := (-1 : Int32)) hx hb dX9_open_57 ic_m1 ?_
        refine lv_icmp_ne (tgt := 65) hx hb dX9_open_58 rfl (fun hc => ?_) (fun hc => ?_)
        · have hF := (if_neg hc).symm.trans hF
          refine lv_iload_n hx hb dX9_open_65 rfl (lv_at hl 3 rfl) ?_
          refine lv_if_ne (tgt := 73) hx hb dX9_open_66 rfl (fun hc => ?_) (fun hc => ?_)
          · have hF := (if_neg hc).symm.trans hF
            refine lv_iconst (v := (-1 : Int32)) hx hb dX9_open_73 ic_m1 ?_
            exact ret_IWC Z hr hlk hP hS hF dX9_open_74
          · have hF := (if_pos hc).symm.trans hF
            refine lv_iload_n hx hb dX9_open_69 rfl (lv_at hl 0 rfl) ?_
            refine lv_goto (tgt := 74) hx hb dX9_open_70 rfl ?_
            exact ret_IWC Z hr hlk hP hS hF dX9_open_74
        · have hF := (if_pos hc).symm.trans hF
          refine lv_iconst (v := (1 : Int32)) hx hb dX9_open_61 ic_1 ?_
          refine lv_goto (tgt := 74) hx hb dX9_open_62 rfl ?_
          exact ret_IWC Z hr hlk hP hS hF dX9_open_74
    · have hF := (if_neg hc).symm.trans hF
      refine lv_iload_n hx hb dX9_open_34 rfl (lv_at hl 2 rfl) ?_
      refine lv_iconst (v := (-1 : Int32)) hx hb dX9_open_35 ic_m1 ?_
      refine lv_icmp_ne (tgt := 43) hx hb dX9_open_36 rfl (fun hc => ?_) (fun hc => ?_)
      · have hF := (if_neg hc).symm.trans hF
        refine lv_iconst (v := (-1 : Int32)) hx hb dX9_open_43 ic_m1 ?_
        exact ret_IWC Z hr hlk hP hS hF dX9_open_44
      · have hF := (if_pos hc).symm.trans hF
        refine lv_iconst (v := (0 : Int32)) hx hb dX9_open_39 ic_0 ?_
        refine lv_goto (tgt := 44) hx hb dX9_open_40 rfl ?_
        exact ret_IWC Z hr hlk hP hS hF dX9_open_44
  refine lv_iload_n hx hb dX9_open_0 rfl (lv_at hl 1 rfl) ?_
  refine lv_bipush (v := (8 : Int32)) hx hb dX9_open_1 bp_8 ?_
  obtain ⟨q9, hq9, hF⟩ := bd_ok hF
  refine xX9_in Z hP hS hq9 wd_7_7 hl.1 (Nat.le_of_ble_eq_true rfl) ⟨Nat.le_of_ble_eq_true rfl, Nat.le_of_ble_eq_true rfl⟩ dX9_open_3 (fun H locs hP hS => ?_)
  refine lv_if_eq (tgt := 22) hx hb dX9_open_6 rfl (fun hc => ?_) (fun hc => ?_)
  · have hF := (if_pos hc).symm.trans hF
    refine lv_bipush (v := (-2 : Int32)) hx hb dX9_open_22 bp_m2 ?_
    exact ret_IWC Z hr hlk hP hS hF dX9_open_24
  · have hF := (if_neg hc).symm.trans hF
    refine lv_iload_n hx hb dX9_open_9 rfl (lv_at hl 2 rfl) ?_
    refine lv_iconst (v := (-1 : Int32)) hx hb dX9_open_10 ic_m1 ?_
    refine lv_icmp_eq (tgt := 25) hx hb dX9_open_11 rfl (fun hc => ?_) (fun hc => ?_)
    · have hF := (if_pos hc).symm.trans hF
      exact hb25 _ hF _ _ _ (lv_sub hl [0, 1, 2] rfl) hP hS
    · have hF := (if_neg hc).symm.trans hF
      refine lv_iload_n hx hb dX9_open_14 rfl (lv_at hl 2 rfl) ?_
      refine lv_iconst (v := (2 : Int32)) hx hb dX9_open_15 ic_2 ?_
      obtain ⟨q10, hq10, hF⟩ := bd_ok hF
      refine xX9_in Z hP hS hq10 wd_7_7 hl.1 (Nat.le_of_ble_eq_true rfl) ⟨Nat.le_of_ble_eq_true rfl, Nat.le_of_ble_eq_true rfl⟩ dX9_open_16 (fun H locs hP hS => ?_)
      refine lv_if_ne (tgt := 25) hx hb dX9_open_19 rfl (fun hc => ?_) (fun hc => ?_)
      · have hF := (if_neg hc).symm.trans hF
        exact hb25 _ hF _ _ _ (lv_sub hl [0, 1, 2] rfl) hP hS
      · have hF := (if_pos hc).symm.trans hF
        refine lv_bipush (v := (-2 : Int32)) hx hb dX9_open_22 bp_m2 ?_
        exact ret_IWC Z hr hlk hP hS hF dX9_open_24
theorem xX9_open {p : Program} {l : Launch} {e : Env} {R : Room} {s : State} {m : MethodId} {args : Array Value} {below : List Frame} {meth : Method} {c : Code} {H : Heap} {locs : List Loc} {Q : State → Prop} {cc : ByteArray} {nL : Nat} {own : String} {g : GG} {pc index : Nat} {ls : Array Slot} {rest : List Value} {mc mm : Mem} (Z : ZZ p s m args c cc nL own g) (hP : va_P g.2.2.1 vwCl (wL g mc mm) H) (hS : va_S (AA g s.heap.size) s.heap H locs) {v1 : Int32} {v2 : Int32} {q : Int32 × Mem} (hq : F9_open v1 v2 mc = some q) (hlk : Cond.methodLink own index yX9_open ∈ wsL_law) (hsz : ls.size = nL) (hro : (rest.map fun v => v.category).sum ≤ 8) (hR : 4 + 1 ≤ R.frames ∧ 8 + (4 + 11) + 104 ≤ R.locals) (hdg : decode cc pc = .ok (.invokevirtual index, 3)) (kk : ∀ (H : Heap) (locs : List Loc), va_P g.2.2.1 vwCl (wL g q.2 mm) H → va_S (AA g s.heap.size) s.heap H locs → W p l e R s m args below meth c H locs 0 0 Q (F0 m (pc + 3) ls (.int q.1 :: rest))) : W p l e R s m args below meth c H locs 0 0 Q (F0 m pc ls (.int v2 :: .int v1 :: .ref (g.1 0) :: rest)) :=
  x_VI Z hP hS (kX9_open l g v1 v2 mc mm q hq) (isO_w ck_0) (ci := 9) (by decide) rfl rfl mf_X9_open mv_X9_open hlk rfl rfl hsz hro hR hdg kk
theorem dJ6_bitCount_0f7a4_0 : decode cJ6_bitCount_0f7a4 0 = .ok (.iload_n 0, 1) := by decide +kernel
theorem dJ6_bitCount_0f7a4_1 : decode cJ6_bitCount_0f7a4 1 = .ok (.iload_n 0, 1) := by decide +kernel
theorem dJ6_bitCount_0f7a4_2 : decode cJ6_bitCount_0f7a4 2 = .ok (.iconst 1, 1) := by decide +kernel
theorem dJ6_bitCount_0f7a4_3 : decode cJ6_bitCount_0f7a4 3 = .ok (.iushr, 1) := by decide +kernel
theorem dJ6_bitCount_0f7a4_4 : decode cJ6_bitCount_0f7a4 4 = .ok (.ldc_w 265, 3) := by decide +kernel
theorem dJ6_bitCount_0f7a4_7 : decode cJ6_bitCount_0f7a4 7 = .ok (.iand, 1) := by decide +kernel
theorem dJ6_bitCount_0f7a4_8 : decode cJ6_bitCount_0f7a4 8 = .ok (.isub, 1) := by decide +kernel
theorem dJ6_bitCount_0f7a4_9 : decode cJ6_bitCount_0f7a4 9 = .ok (.istore_n 0, 1) := by decide +kernel
theorem dJ6_bitCount_0f7a4_10 : decode cJ6_bitCount_0f7a4 10 = .ok (.iload_n 0, 1) := by decide +kernel
theorem dJ6_bitCount_0f7a4_11 : decode cJ6_bitCount_0f7a4 11 = .ok (.ldc_w 266, 3) := by decide +kernel
theorem dJ6_bitCount_0f7a4_14 : decode cJ6_bitCount_0f7a4 14 = .ok (.iand, 1) := by decide +kernel
theorem dJ6_bitCount_0f7a4_15 : decode cJ6_bitCount_0f7a4 15 = .ok (.iload_n 0, 1) := by decide +kernel
theorem dJ6_bitCount_0f7a4_16 : decode cJ6_bitCount_0f7a4 16 = .ok (.iconst 2, 1) := by decide +kernel
theorem dJ6_bitCount_0f7a4_17 : decode cJ6_bitCount_0f7a4 17 = .ok (.iushr, 1) := by decide +kernel
theorem dJ6_bitCount_0f7a4_18 : decode cJ6_bitCount_0f7a4 18 = .ok (.ldc_w 266, 3) := by decide +kernel
theorem dJ6_bitCount_0f7a4_21 : decode cJ6_bitCount_0f7a4 21 = .ok (.iand, 1) := by decide +kernel
theorem dJ6_bitCount_0f7a4_22 : decode cJ6_bitCount_0f7a4 22 = .ok (.iadd, 1) := by decide +kernel
theorem dJ6_bitCount_0f7a4_23 : decode cJ6_bitCount_0f7a4 23 = .ok (.istore_n 0, 1) := by decide +kernel
theorem dJ6_bitCount_0f7a4_24 : decode cJ6_bitCount_0f7a4 24 = .ok (.iload_n 0, 1) := by decide +kernel
theorem dJ6_bitCount_0f7a4_25 : decode cJ6_bitCount_0f7a4 25 = .ok (.iload_n 0, 1) := by decide +kernel
theorem dJ6_bitCount_0f7a4_26 : decode cJ6_bitCount_0f7a4 26 = .ok (.iconst 4, 1) := by decide +kernel
theorem dJ6_bitCount_0f7a4_27 : decode cJ6_bitCount_0f7a4 27 = .ok (.iushr, 1) := by decide +kernel
theorem dJ6_bitCount_0f7a4_28 : decode cJ6_bitCount_0f7a4 28 = .ok (.iadd, 1) := by decide +kernel
theorem dJ6_bitCount_0f7a4_29 : decode cJ6_bitCount_0f7a4 29 = .ok (.ldc_w 267, 3) := by decide +kernel
theorem dJ6_bitCount_0f7a4_32 : decode cJ6_bitCount_0f7a4 32 = .ok (.iand, 1) := by decide +kernel
theorem dJ6_bitCount_0f7a4_33 : decode cJ6_bitCount_0f7a4 33 = .ok (.istore_n 0, 1) := by decide +kernel
theorem dJ6_bitCount_0f7a4_34 : decode cJ6_bitCount_0f7a4 34 = .ok (.iload_n 0, 1) := by decide +kernel
theorem dJ6_bitCount_0f7a4_35 : decode cJ6_bitCount_0f7a4 35 = .ok (.iload_n 0, 1) := by decide +kernel
theorem dJ6_bitCount_0f7a4_36 : decode cJ6_bitCount_0f7a4 36 = .ok (.bipush 8, 2) := by decide +kernel
theorem dJ6_bitCount_0f7a4_38 : decode cJ6_bitCount_0f7a4 38 = .ok (.iushr, 1) := by decide +kernel
theorem dJ6_bitCount_0f7a4_39 : decode cJ6_bitCount_0f7a4 39 = .ok (.iadd, 1) := by decide +kernel
theorem dJ6_bitCount_0f7a4_40 : decode cJ6_bitCount_0f7a4 40 = .ok (.istore_n 0, 1) := by decide +kernel
theorem dJ6_bitCount_0f7a4_41 : decode cJ6_bitCount_0f7a4 41 = .ok (.iload_n 0, 1) := by decide +kernel
theorem dJ6_bitCount_0f7a4_42 : decode cJ6_bitCount_0f7a4 42 = .ok (.iload_n 0, 1) := by decide +kernel
theorem dJ6_bitCount_0f7a4_43 : decode cJ6_bitCount_0f7a4 43 = .ok (.bipush 16, 2) := by decide +kernel
theorem dJ6_bitCount_0f7a4_45 : decode cJ6_bitCount_0f7a4 45 = .ok (.iushr, 1) := by decide +kernel
theorem dJ6_bitCount_0f7a4_46 : decode cJ6_bitCount_0f7a4 46 = .ok (.iadd, 1) := by decide +kernel
theorem dJ6_bitCount_0f7a4_47 : decode cJ6_bitCount_0f7a4 47 = .ok (.istore_n 0, 1) := by decide +kernel
theorem dJ6_bitCount_0f7a4_48 : decode cJ6_bitCount_0f7a4 48 = .ok (.iload_n 0, 1) := by decide +kernel
theorem dJ6_bitCount_0f7a4_49 : decode cJ6_bitCount_0f7a4 49 = .ok (.bipush 63, 2) := by decide +kernel
theorem dJ6_bitCount_0f7a4_51 : decode cJ6_bitCount_0f7a4 51 = .ok (.iand, 1) := by decide +kernel
theorem dJ6_bitCount_0f7a4_52 : decode cJ6_bitCount_0f7a4 52 = .ok (.ireturn, 1) := by decide +kernel
noncomputable def F6_bitCount_0f7a4 (v0 : Int32) : Option (Int32) :=
  some ((((((((v0 - ((jushr v0 (1 : Int32)) &&& (1431655765 : Int32))) &&& (858993459 : Int32)) + ((jushr (v0 - ((jushr v0 (1 : Int32)) &&& (1431655765 : Int32))) (2 : Int32)) &&& (858993459 : Int32))) + (jushr (((v0 - ((jushr v0 (1 : Int32)) &&& (1431655765 : Int32))) &&& (858993459 : Int32)) + ((jushr (v0 - ((jushr v0 (1 : Int32)) &&& (1431655765 : Int32))) (2 : Int32)) &&& (858993459 : Int32))) (4 : Int32))) &&& (252645135 : Int32)) + (jushr (((((v0 - ((jushr v0 (1 : Int32)) &&& (1431655765 : Int32))) &&& (858993459 : Int32)) + ((jushr (v0 - ((jushr v0 (1 : Int32)) &&& (1431655765 : Int32))) (2 : Int32)) &&& (858993459 : Int32))) + (jushr (((v0 - ((jushr v0 (1 : Int32)) &&& (1431655765 : Int32))) &&& (858993459 : Int32)) + ((jushr (v0 - ((jushr v0 (1 : Int32)) &&& (1431655765 : Int32))) (2 : Int32)) &&& (858993459 : Int32))) (4 : Int32))) &&& (252645135 : Int32)) (8 : Int32))) + (jushr ((((((v0 - ((jushr v0 (1 : Int32)) &&& (1431655765 : Int32))) &&& (858993459 : Int32)) + ((jushr (v0 - ((jushr v0 (1 : Int32)) &&& (1431655765 : Int32))) (2 : Int32)) &&& (858993459 : Int32))) + (jushr (((v0 - ((jushr v0 (1 : Int32)) &&& (1431655765 : Int32))) &&& (858993459 : Int32)) + ((jushr (v0 - ((jushr v0 (1 : Int32)) &&& (1431655765 : Int32))) (2 : Int32)) &&& (858993459 : Int32))) (4 : Int32))) &&& (252645135 : Int32)) + (jushr (((((v0 - ((jushr v0 (1 : Int32)) &&& (1431655765 : Int32))) &&& (858993459 : Int32)) + ((jushr (v0 - ((jushr v0 (1 : Int32)) &&& (1431655765 : Int32))) (2 : Int32)) &&& (858993459 : Int32))) + (jushr (((v0 - ((jushr v0 (1 : Int32)) &&& (1431655765 : Int32))) &&& (858993459 : Int32)) + ((jushr (v0 - ((jushr v0 (1 : Int32)) &&& (1431655765 : Int32))) (2 : Int32)) &&& (858993459 : Int32))) (4 : Int32))) &&& (252645135 : Int32)) (8 : Int32))) (16 : Int32))) &&& (63 : Int32))
set_option maxHeartbeats 4000000 in
set_option maxRecDepth 100000 in
theorem kJ6_bitCount_0f7a4 (l : Launch) (g : GG) (v0 : Int32) (mc mm : Mem) (q : Int32) (hF : F6_bitCount_0f7a4 v0 = some q) : KI l yJ6_bitCount_0f7a4 cJ6_bitCount_0f7a4 1 .int 0 0 g [.int v0] mc mm q (mc, mm) := by
  intro sz
  refine x_start (Qc := fun z => QI g z q (mc, mm)) (by decide +kernel) (Nat.le_of_ble_eq_true rfl) ?_ sz
  intro p e s m args below meth c ls Z hr hlk hP hl
  have hx := Z.1.1
  have hb := Z.1.2.1
  have hown := Z.1.2.2.2.1
  have hts := Z.1.2.2.2.2
  have hS : va_S (AA g s.heap.size) s.heap s.heap [] := va_S.rf
  have hl : lv_has ls 1 [(0, .int v0)] := hl
  unfold F6_bitCount_0f7a4 at hF
  refine lv_iload_n hx hb dJ6_bitCount_0f7a4_0 rfl (lv_at hl 0 rfl) ?_
  refine lv_iload_n hx hb dJ6_bitCount_0f7a4_1 rfl (lv_at hl 0 rfl) ?_
  refine lv_iconst (v := (1 : Int32)) hx hb dJ6_bitCount_0f7a4_2 ic_1 ?_
  refine lv_iushr (v := (jushr v0 (1 : Int32))) hx hb dJ6_bitCount_0f7a4_3 rfl ?_
  refine lv_ldcw (v := (1431655765 : Int32)) hx hb hown (hts _ wd_31_10) dJ6_bitCount_0f7a4_4 ?_
  refine lv_iand hx hb dJ6_bitCount_0f7a4_7 ?_
  refine lv_isub hx hb dJ6_bitCount_0f7a4_8 ?_
  refine lv_istore_n (lv' := [(0, .int (v0 - ((jushr v0 (1 : Int32)) &&& (1431655765 : Int32))))]) hx hb dJ6_bitCount_0f7a4_9 rfl hl (Nat.le_of_ble_eq_true rfl) rfl (fun ls hl => ?_)
  refine lv_iload_n hx hb dJ6_bitCount_0f7a4_10 rfl (lv_at hl 0 rfl) ?_
  refine lv_ldcw (v := (858993459 : Int32)) hx hb hown (hts _ wd_31_11) dJ6_bitCount_0f7a4_11 ?_
  refine lv_iand hx hb dJ6_bitCount_0f7a4_14 ?_
  refine lv_iload_n hx hb dJ6_bitCount_0f7a4_15 rfl (lv_at hl 0 rfl) ?_
  refine lv_iconst (v := (2 : Int32)) hx hb dJ6_bitCount_0f7a4_16 ic_2 ?_
  refine lv_iushr (v := (jushr (v0 - ((jushr v0 (1 : Int32)) &&& (1431655765 : Int32))) (2 : Int32))) hx hb dJ6_bitCount_0f7a4_17 rfl ?_
  refine lv_ldcw (v := (858993459 : Int32)) hx hb hown (hts _ wd_31_11) dJ6_bitCount_0f7a4_18 ?_
  refine lv_iand hx hb dJ6_bitCount_0f7a4_21 ?_
  refine lv_iadd hx hb dJ6_bitCount_0f7a4_22 ?_
  refine lv_istore_n (lv' := [(0, .int (((v0 - ((jushr v0 (1 : Int32)) &&& (1431655765 : Int32))) &&& (858993459 : Int32)) + ((jushr (v0 - ((jushr v0 (1 : Int32)) &&& (1431655765 : Int32))) (2 : Int32)) &&& (858993459 : Int32))))]) hx hb dJ6_bitCount_0f7a4_23 rfl hl (Nat.le_of_ble_eq_true rfl) rfl (fun ls hl => ?_)
  refine lv_iload_n hx hb dJ6_bitCount_0f7a4_24 rfl (lv_at hl 0 rfl) ?_
  refine lv_iload_n hx hb dJ6_bitCount_0f7a4_25 rfl (lv_at hl 0 rfl) ?_
  refine lv_iconst (v := (4 : Int32)) hx hb dJ6_bitCount_0f7a4_26 ic_4 ?_
  refine lv_iushr (v := (jushr (((v0 - ((jushr v0 (1 : Int32)) &&& (1431655765 : Int32))) &&& (858993459 : Int32)) + ((jushr (v0 - ((jushr v0 (1 : Int32)) &&& (1431655765 : Int32))) (2 : Int32)) &&& (858993459 : Int32))) (4 : Int32))) hx hb dJ6_bitCount_0f7a4_27 rfl ?_
  refine lv_iadd hx hb dJ6_bitCount_0f7a4_28 ?_
  refine lv_ldcw (v := (252645135 : Int32)) hx hb hown (hts _ wd_31_12) dJ6_bitCount_0f7a4_29 ?_
  refine lv_iand hx hb dJ6_bitCount_0f7a4_32 ?_
  refine lv_istore_n (lv' := [(0, .int (((((v0 - ((jushr v0 (1 : Int32)) &&& (1431655765 : Int32))) &&& (858993459 : Int32)) + ((jushr (v0 - ((jushr v0 (1 : Int32)) &&& (1431655765 : Int32))) (2 : Int32)) &&& (858993459 : Int32))) + (jushr (((v0 - ((jushr v0 (1 : Int32)) &&& (1431655765 : Int32))) &&& (858993459 : Int32)) + ((jushr (v0 - ((jushr v0 (1 : Int32)) &&& (1431655765 : Int32))) (2 : Int32)) &&& (858993459 : Int32))) (4 : Int32))) &&& (252645135 : Int32)))]) hx hb dJ6_bitCount_0f7a4_33 rfl hl (Nat.le_of_ble_eq_true rfl) rfl (fun ls hl => ?_)
  refine lv_iload_n hx hb dJ6_bitCount_0f7a4_34 rfl (lv_at hl 0 rfl) ?_
  refine lv_iload_n hx hb dJ6_bitCount_0f7a4_35 rfl (lv_at hl 0 rfl) ?_
  refine lv_bipush (v := (8 : Int32)) hx hb dJ6_bitCount_0f7a4_36 bp_8 ?_
  refine lv_iushr (v := (jushr (((((v0 - ((jushr v0 (1 : Int32)) &&& (1431655765 : Int32))) &&& (858993459 : Int32)) + ((jushr (v0 - ((jushr v0 (1 : Int32)) &&& (1431655765 : Int32))) (2 : Int32)) &&& (858993459 : Int32))) + (jushr (((v0 - ((jushr v0 (1 : Int32)) &&& (1431655765 : Int32))) &&& (858993459 : Int32)) + ((jushr (v0 - ((jushr v0 (1 : Int32)) &&& (1431655765 : Int32))) (2 : Int32)) &&& (858993459 : Int32))) (4 : Int32))) &&& (252645135 : Int32)) (8 : Int32))) hx hb dJ6_bitCount_0f7a4_38 rfl ?_
  refine lv_iadd hx hb dJ6_bitCount_0f7a4_39 ?_
  refine lv_istore_n (lv' := [(0, .int ((((((v0 - ((jushr v0 (1 : Int32)) &&& (1431655765 : Int32))) &&& (858993459 : Int32)) + ((jushr (v0 - ((jushr v0 (1 : Int32)) &&& (1431655765 : Int32))) (2 : Int32)) &&& (858993459 : Int32))) + (jushr (((v0 - ((jushr v0 (1 : Int32)) &&& (1431655765 : Int32))) &&& (858993459 : Int32)) + ((jushr (v0 - ((jushr v0 (1 : Int32)) &&& (1431655765 : Int32))) (2 : Int32)) &&& (858993459 : Int32))) (4 : Int32))) &&& (252645135 : Int32)) + (jushr (((((v0 - ((jushr v0 (1 : Int32)) &&& (1431655765 : Int32))) &&& (858993459 : Int32)) + ((jushr (v0 - ((jushr v0 (1 : Int32)) &&& (1431655765 : Int32))) (2 : Int32)) &&& (858993459 : Int32))) + (jushr (((v0 - ((jushr v0 (1 : Int32)) &&& (1431655765 : Int32))) &&& (858993459 : Int32)) + ((jushr (v0 - ((jushr v0 (1 : Int32)) &&& (1431655765 : Int32))) (2 : Int32)) &&& (858993459 : Int32))) (4 : Int32))) &&& (252645135 : Int32)) (8 : Int32))))]) hx hb dJ6_bitCount_0f7a4_40 rfl hl (Nat.le_of_ble_eq_true rfl) rfl (fun ls hl => ?_)
  refine lv_iload_n hx hb dJ6_bitCount_0f7a4_41 rfl (lv_at hl 0 rfl) ?_
  refine lv_iload_n hx hb dJ6_bitCount_0f7a4_42 rfl (lv_at hl 0 rfl) ?_
  refine lv_bipush (v := (16 : Int32)) hx hb dJ6_bitCount_0f7a4_43 bp_16 ?_
  refine lv_iushr (v := (jushr ((((((v0 - ((jushr v0 (1 : Int32)) &&& (1431655765 : Int32))) &&& (858993459 : Int32)) + ((jushr (v0 - ((jushr v0 (1 : Int32)) &&& (1431655765 : Int32))) (2 : Int32)) &&& (858993459 : Int32))) + (jushr (((v0 - ((jushr v0 (1 : Int32)) &&& (1431655765 : Int32))) &&& (858993459 : Int32)) + ((jushr (v0 - ((jushr v0 (1 : Int32)) &&& (1431655765 : Int32))) (2 : Int32)) &&& (858993459 : Int32))) (4 : Int32))) &&& (252645135 : Int32)) + (jushr (((((v0 - ((jushr v0 (1 : Int32)) &&& (1431655765 : Int32))) &&& (858993459 : Int32)) + ((jushr (v0 - ((jushr v0 (1 : Int32)) &&& (1431655765 : Int32))) (2 : Int32)) &&& (858993459 : Int32))) + (jushr (((v0 - ((jushr v0 (1 : Int32)) &&& (1431655765 : Int32))) &&& (858993459 : Int32)) + ((jushr (v0 - ((jushr v0 (1 : Int32)) &&& (1431655765 : Int32))) (2 : Int32)) &&& (858993459 : Int32))) (4 : Int32))) &&& (252645135 : Int32)) (8 : Int32))) (16 : Int32))) hx hb dJ6_bitCount_0f7a4_45 rfl ?_
  refine lv_iadd hx hb dJ6_bitCount_0f7a4_46 ?_
  refine lv_istore_n (lv' := [(0, .int (((((((v0 - ((jushr v0 (1 : Int32)) &&& (1431655765 : Int32))) &&& (858993459 : Int32)) + ((jushr (v0 - ((jushr v0 (1 : Int32)) &&& (1431655765 : Int32))) (2 : Int32)) &&& (858993459 : Int32))) + (jushr (((v0 - ((jushr v0 (1 : Int32)) &&& (1431655765 : Int32))) &&& (858993459 : Int32)) + ((jushr (v0 - ((jushr v0 (1 : Int32)) &&& (1431655765 : Int32))) (2 : Int32)) &&& (858993459 : Int32))) (4 : Int32))) &&& (252645135 : Int32)) + (jushr (((((v0 - ((jushr v0 (1 : Int32)) &&& (1431655765 : Int32))) &&& (858993459 : Int32)) + ((jushr (v0 - ((jushr v0 (1 : Int32)) &&& (1431655765 : Int32))) (2 : Int32)) &&& (858993459 : Int32))) + (jushr (((v0 - ((jushr v0 (1 : Int32)) &&& (1431655765 : Int32))) &&& (858993459 : Int32)) + ((jushr (v0 - ((jushr v0 (1 : Int32)) &&& (1431655765 : Int32))) (2 : Int32)) &&& (858993459 : Int32))) (4 : Int32))) &&& (252645135 : Int32)) (8 : Int32))) + (jushr ((((((v0 - ((jushr v0 (1 : Int32)) &&& (1431655765 : Int32))) &&& (858993459 : Int32)) + ((jushr (v0 - ((jushr v0 (1 : Int32)) &&& (1431655765 : Int32))) (2 : Int32)) &&& (858993459 : Int32))) + (jushr (((v0 - ((jushr v0 (1 : Int32)) &&& (1431655765 : Int32))) &&& (858993459 : Int32)) + ((jushr (v0 - ((jushr v0 (1 : Int32)) &&& (1431655765 : Int32))) (2 : Int32)) &&& (858993459 : Int32))) (4 : Int32))) &&& (252645135 : Int32)) + (jushr (((((v0 - ((jushr v0 (1 : Int32)) &&& (1431655765 : Int32))) &&& (858993459 : Int32)) + ((jushr (v0 - ((jushr v0 (1 : Int32)) &&& (1431655765 : Int32))) (2 : Int32)) &&& (858993459 : Int32))) + (jushr (((v0 - ((jushr v0 (1 : Int32)) &&& (1431655765 : Int32))) &&& (858993459 : Int32)) + ((jushr (v0 - ((jushr v0 (1 : Int32)) &&& (1431655765 : Int32))) (2 : Int32)) &&& (858993459 : Int32))) (4 : Int32))) &&& (252645135 : Int32)) (8 : Int32))) (16 : Int32))))]) hx hb dJ6_bitCount_0f7a4_47 rfl hl (Nat.le_of_ble_eq_true rfl) rfl (fun ls hl => ?_)
  refine lv_iload_n hx hb dJ6_bitCount_0f7a4_48 rfl (lv_at hl 0 rfl) ?_
  refine lv_bipush (v := (63 : Int32)) hx hb dJ6_bitCount_0f7a4_49 bp_63 ?_
  refine lv_iand hx hb dJ6_bitCount_0f7a4_51 ?_
  exact ret_I Z hr hlk hP hS hF dJ6_bitCount_0f7a4_52
theorem xJ6_bitCount_0f7a4 {p : Program} {l : Launch} {e : Env} {R : Room} {s : State} {m : MethodId} {args : Array Value} {below : List Frame} {meth : Method} {c : Code} {H : Heap} {locs : List Loc} {Q : State → Prop} {cc : ByteArray} {nL : Nat} {own : String} {g : GG} {pc index : Nat} {ls : Array Slot} {rest : List Value} {mc mm : Mem} (Z : ZZ p s m args c cc nL own g) (hP : va_P g.2.2.1 vwCl (wL g mc mm) H) (hS : va_S (AA g s.heap.size) s.heap H locs) {v0 : Int32} {q : Int32} (hq : F6_bitCount_0f7a4 v0 = some q) (hlk : Cond.methodLink own index yJ6_bitCount_0f7a4 ∈ wsL_law) (hsz : ls.size = nL) (hro : (rest.map fun v => v.category).sum ≤ 8) (hR : 0 + 1 ≤ R.frames ∧ 8 + (1 + 11) + 0 ≤ R.locals) (hdg : decode cc pc = .ok (.invokestatic index, 3)) (kk : ∀ (H : Heap) (locs : List Loc), va_P g.2.2.1 vwCl (wL g mc mm) H → va_S (AA g s.heap.size) s.heap H locs → W p l e R s m args below meth c H locs 0 0 Q (F0 m (pc + 3) ls (.int q :: rest))) : W p l e R s m args below meth c H locs 0 0 Q (F0 m pc ls (.int v0 :: rest)) :=
  x_SI Z hP hS (kJ6_bitCount_0f7a4 l g v0 mc mm q hq) mf_J6_bitCount_0f7a4 wd_31_7 hlk rfl rfl hsz hro hR hdg kk

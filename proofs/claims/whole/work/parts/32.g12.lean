theorem dX9_heightsOf_0 : decode cX9_heightsOf 0 = .ok (.aload_n 0, 1) := by decide +kernel
theorem dX9_heightsOf_1 : decode cX9_heightsOf 1 = .ok (.getfield 71, 3) := by decide +kernel
theorem dX9_heightsOf_4 : decode cX9_heightsOf 4 = .ok (.aload_n 0, 1) := by decide +kernel
theorem dX9_heightsOf_5 : decode cX9_heightsOf 5 = .ok (.getfield 21, 3) := by decide +kernel
theorem dX9_heightsOf_8 : decode cX9_heightsOf 8 = .ok (.invokevirtual 413, 3) := by decide +kernel
theorem dX9_heightsOf_11 : decode cX9_heightsOf 11 = .ok (.iconst 0, 1) := by decide +kernel
theorem dX9_heightsOf_12 : decode cX9_heightsOf 12 = .ok (.istore_n 2, 1) := by decide +kernel
theorem dX9_heightsOf_13 : decode cX9_heightsOf 13 = .ok (.iconst 0, 1) := by decide +kernel
theorem dX9_heightsOf_14 : decode cX9_heightsOf 14 = .ok (.istore_n 3, 1) := by decide +kernel
theorem dX9_heightsOf_15 : decode cX9_heightsOf 15 = .ok (.iload_n 3, 1) := by decide +kernel
theorem dX9_heightsOf_16 : decode cX9_heightsOf 16 = .ok (.bipush 10, 2) := by decide +kernel
theorem dX9_heightsOf_18 : decode cX9_heightsOf 18 = .ok (.if_icmp .ge 41, 3) := by decide +kernel
theorem dX9_heightsOf_21 : decode cX9_heightsOf 21 = .ok (.aload_n 0, 1) := by decide +kernel
theorem dX9_heightsOf_22 : decode cX9_heightsOf 22 = .ok (.getfield 71, 3) := by decide +kernel
theorem dX9_heightsOf_25 : decode cX9_heightsOf 25 = .ok (.iload_n 1, 1) := by decide +kernel
theorem dX9_heightsOf_26 : decode cX9_heightsOf 26 = .ok (.iload_n 3, 1) := by decide +kernel
theorem dX9_heightsOf_27 : decode cX9_heightsOf 27 = .ok (.invokevirtual 417, 3) := by decide +kernel
theorem dX9_heightsOf_30 : decode cX9_heightsOf 30 = .ok (.aload_n 0, 1) := by decide +kernel
theorem dX9_heightsOf_31 : decode cX9_heightsOf 31 = .ok (.aload_n 0, 1) := by decide +kernel
theorem dX9_heightsOf_32 : decode cX9_heightsOf 32 = .ok (.getfield 71, 3) := by decide +kernel
theorem dX9_heightsOf_35 : decode cX9_heightsOf 35 = .ok (.aload_n 0, 1) := by decide +kernel
theorem dX9_heightsOf_36 : decode cX9_heightsOf 36 = .ok (.getfield 56, 3) := by decide +kernel
theorem dX9_heightsOf_39 : decode cX9_heightsOf 39 = .ok (.iconst (-1), 1) := by decide +kernel
theorem dX9_heightsOf_40 : decode cX9_heightsOf 40 = .ok (.iconst (-1), 1) := by decide +kernel
theorem dX9_heightsOf_41 : decode cX9_heightsOf 41 = .ok (.invokevirtual 236, 3) := by decide +kernel
theorem dX9_heightsOf_44 : decode cX9_heightsOf 44 = .ok (.ifCond .eq 9, 3) := by decide +kernel
theorem dX9_heightsOf_47 : decode cX9_heightsOf 47 = .ok (.iload_n 2, 1) := by decide +kernel
theorem dX9_heightsOf_48 : decode cX9_heightsOf 48 = .ok (.iconst 1, 1) := by decide +kernel
theorem dX9_heightsOf_49 : decode cX9_heightsOf 49 = .ok (.iload_n 3, 1) := by decide +kernel
theorem dX9_heightsOf_50 : decode cX9_heightsOf 50 = .ok (.ishl, 1) := by decide +kernel
theorem dX9_heightsOf_51 : decode cX9_heightsOf 51 = .ok (.ior, 1) := by decide +kernel
theorem dX9_heightsOf_52 : decode cX9_heightsOf 52 = .ok (.istore_n 2, 1) := by decide +kernel
theorem dX9_heightsOf_53 : decode cX9_heightsOf 53 = .ok (.iinc 3 1, 3) := by decide +kernel
theorem dX9_heightsOf_56 : decode cX9_heightsOf 56 = .ok (.goto (-41), 3) := by decide +kernel
theorem dX9_heightsOf_59 : decode cX9_heightsOf 59 = .ok (.iload_n 2, 1) := by decide +kernel
theorem dX9_heightsOf_60 : decode cX9_heightsOf 60 = .ok (.ireturn, 1) := by decide +kernel
noncomputable def F9_heightsOf_b53 (kh : Int32 → Int32 → Mem → Option (Int32 × Mem)) (v1 : Int32) (a2 : Int32) (a3 : Int32) (M : Mem) : Option (Int32 × Mem) :=
  kh a2 (a3 + (1 : Int32)) M
noncomputable def F9_heightsOf_p15 (kh : Int32 → Int32 → Mem → Option (Int32 × Mem)) (v1 : Int32) (a2 : Int32) (a3 : Int32) (M : Mem) : Option (Int32 × Mem) :=
  (if (10 : Int32) ≤ a3 then some (a2, M) else ((F8_raise 79 v1 a3 M).bind (fun q4 => ((F9_comesOut 79 34 (-1 : Int32) (-1 : Int32) q4).bind (fun q5 => (if q5.1 = (0 : Int32) then (F9_heightsOf_b53 kh v1) a2 a3 q5.2 else (F9_heightsOf_b53 kh v1) (a2 ||| ((1 : Int32) <<< (a3 &&& (31 : Int32)))) a3 q5.2))))))
noncomputable def F9_heightsOf_h15 (v1 : Int32) : Nat → Int32 → Int32 → Mem → Option (Int32 × Mem)
  | 0, _, _, _ => none
  | n + 1, a2, a3, M => F9_heightsOf_p15 (F9_heightsOf_h15 v1 n) v1 a2 a3 M
noncomputable def F9_heightsOf (v1 : Int32) (mc : Mem) : Option (Int32 × Mem) :=
  ((F8_become 79 6 mc).bind (fun q6 => ((F9_heightsOf_h15 v1 FU) (0 : Int32) (0 : Int32) q6)))
set_option maxHeartbeats 4000000 in
set_option maxRecDepth 100000 in
theorem kX9_heightsOf (l : Launch) (g : GG) (v1 : Int32) (mc mm : Mem) (q : Int32 × Mem) (hF : F9_heightsOf v1 mc = some q) : KI l yX9_heightsOf cX9_heightsOf 4 .int 3 82 g [.ref (g.1 0), .int v1] mc mm q.1 (q.2, mm) := by
  intro sz
  refine x_start (Qc := fun z => QI g z q.1 (q.2, mm)) (by decide +kernel) (Nat.le_of_ble_eq_true rfl) ?_ sz
  intro p e s m args below meth c ls Z hr hlk hP hl
  have hx := Z.1.1
  have hb := Z.1.2.1
  have hown := Z.1.2.2.2.1
  have hts := Z.1.2.2.2.2
  have hS : va_S (AA g s.heap.size) s.heap s.heap [] := va_S.rf
  have hl : lv_has ls 4 [(0, .ref (g.1 0)), (1, .int v1)] := hl
  unfold F9_heightsOf at hF
  have hL15 : ∀ n : Nat, ∀ (a2 : Int32) (a3 : Int32) (M : Mem), F9_heightsOf_h15 v1 n a2 a3 M = some q → ∀ (H : Heap) (locs : List Loc) (ls : Array Slot), lv_has ls 4 [(0, .ref (g.1 0)), (1, .int v1), (2, .int a2), (3, .int a3)] → va_P g.2.2.1 vwCl (wL g M mm) H → va_S (AA g s.heap.size) s.heap H locs → W p l e { frames := 3, cells := 0, slots := 0, locals := 82 } s m args below meth c H locs 0 0 (MQ below (QI g s.heap.size q.1 (q.2, mm)) args s 0 0 (AA g s.heap.size)) (F0 m 15 ls []) := by
    intro n
    induction n with
    | zero => intro a2 a3 M hF H locs ls hl hP hS; exact absurd hF (fun z => nomatch (show (none : Option _) = some q from z))
    | succ n ih =>
      generalize hkh : F9_heightsOf_h15 v1 n = kh at ih
      have hb53 : ∀ (a2 : Int32) (a3 : Int32) (M : Mem), F9_heightsOf_b53 kh v1 a2 a3 M = some q → ∀ (H : Heap) (locs : List Loc) (ls : Array Slot), lv_has ls 4 [(0, .ref (g.1 0)), (1, .int v1), (2, .int a2), (3, .int a3)] → va_P g.2.2.1 vwCl (wL g M mm) H → va_S (AA g s.heap.size) s.heap H locs → W p l e { frames := 3, cells := 0, slots := 0, locals := 82 } s m args below meth c H locs 0 0 (MQ below (QI g s.heap.size q.1 (q.2, mm)) args s 0 0 (AA g s.heap.size)) (F0 m 53 ls []) := by
        intro a2 a3 M hF H locs ls hl hP hS
        unfold F9_heightsOf_b53 at hF
        refine lv_iinc (lv' := [(3, .int (a3 + (1 : Int32))), (0, .ref (g.1 0)), (1, .int v1), (2, .int a2)]) (v := (a3 + (1 : Int32))) hx hb dX9_heightsOf_53 hl (k := 3) rfl (io_1 _) (Nat.le_of_ble_eq_true rfl) rfl (fun ls hl => ?_)
        refine lv_goto (tgt := 15) hx hb dX9_heightsOf_56 rfl ?_
        exact ih _ _ _ hF _ _ _ (lv_sub hl [1, 2, 3, 0] rfl) hP hS
      intro a2 a3 M hF H locs ls hl hP hS
      have hF : F9_heightsOf_p15 (F9_heightsOf_h15 v1 n) v1 a2 a3 M = some q := hF
      rw [hkh] at hF
      unfold F9_heightsOf_p15 at hF
      refine lv_iload_n hx hb dX9_heightsOf_15 rfl (lv_at hl 3 rfl) ?_
      refine lv_bipush (v := (10 : Int32)) hx hb dX9_heightsOf_16 bp_10 ?_
      refine lv_icmp_ge (tgt := 59) hx hb dX9_heightsOf_18 rfl (fun hc => ?_) (fun hc => ?_)
      · have hF := (if_pos hc).symm.trans hF
        refine lv_iload_n hx hb dX9_heightsOf_59 rfl (lv_at hl 2 rfl) ?_
        exact ret_IWC Z hr hlk hP hS hF dX9_heightsOf_60
      · have hF := (if_neg hc).symm.trans hF
        refine lv_aload_n hx hb dX9_heightsOf_21 rfl (lv_at hl 0 rfl) ?_
        refine gf9_10 Z hP wd_2_21 dX9_heightsOf_22 ?_
        refine lv_iload_n hx hb dX9_heightsOf_25 rfl (lv_at hl 1 rfl) ?_
        refine lv_iload_n hx hb dX9_heightsOf_26 rfl (lv_at hl 3 rfl) ?_
        obtain ⟨q4, hq4, hF⟩ := bd_ok hF
        refine xX8_raise Z hP hS ck_79 hq4 wd_34_10 hl.1 (Nat.le_of_ble_eq_true rfl) ⟨Nat.le_of_ble_eq_true rfl, Nat.le_of_ble_eq_true rfl⟩ dX9_heightsOf_27 (fun H locs hP hS => ?_)
        refine lv_aload_n hx hb dX9_heightsOf_30 rfl (lv_at hl 0 rfl) ?_
        refine lv_aload_n hx hb dX9_heightsOf_31 rfl (lv_at hl 0 rfl) ?_
        refine gf9_10 Z hP wd_2_21 dX9_heightsOf_32 ?_
        refine lv_aload_n hx hb dX9_heightsOf_35 rfl (lv_at hl 0 rfl) ?_
        refine gf9_7 Z hP wd_2_15 dX9_heightsOf_36 ?_
        refine lv_iconst (v := (-1 : Int32)) hx hb dX9_heightsOf_39 ic_m1 ?_
        refine lv_iconst (v := (-1 : Int32)) hx hb dX9_heightsOf_40 ic_m1 ?_
        obtain ⟨q5, hq5, hF⟩ := bd_ok hF
        refine xX9_comesOut Z hP hS ck_79 ck_34 hq5 wd_33_2 hl.1 (Nat.le_of_ble_eq_true rfl) ⟨Nat.le_of_ble_eq_true rfl, Nat.le_of_ble_eq_true rfl⟩ dX9_heightsOf_41 (fun H locs hP hS => ?_)
        refine lv_if_eq (tgt := 53) hx hb dX9_heightsOf_44 rfl (fun hc => ?_) (fun hc => ?_)
        · have hF := (if_pos hc).symm.trans hF
          exact hb53 _ _ _ hF _ _ _ (lv_sub hl [0, 1, 2, 3] rfl) hP hS
        · have hF := (if_neg hc).symm.trans hF
          refine lv_iload_n hx hb dX9_heightsOf_47 rfl (lv_at hl 2 rfl) ?_
          refine lv_iconst (v := (1 : Int32)) hx hb dX9_heightsOf_48 ic_1 ?_
          refine lv_iload_n hx hb dX9_heightsOf_49 rfl (lv_at hl 3 rfl) ?_
          refine lv_ishl hx hb dX9_heightsOf_50 ?_
          refine lv_ior hx hb dX9_heightsOf_51 ?_
          refine lv_istore_n (lv' := [(2, .int (a2 ||| ((1 : Int32) <<< (a3 &&& (31 : Int32))))), (0, .ref (g.1 0)), (1, .int v1), (3, .int a3)]) hx hb dX9_heightsOf_52 rfl hl (Nat.le_of_ble_eq_true rfl) rfl (fun ls hl => ?_)
          exact hb53 _ _ _ hF _ _ _ (lv_sub hl [1, 2, 0, 3] rfl) hP hS
  refine lv_aload_n hx hb dX9_heightsOf_0 rfl (lv_at hl 0 rfl) ?_
  refine gf9_10 Z hP wd_2_21 dX9_heightsOf_1 ?_
  refine lv_aload_n hx hb dX9_heightsOf_4 rfl (lv_at hl 0 rfl) ?_
  refine gf9_1 Z hP wd_1_19 dX9_heightsOf_5 ?_
  obtain ⟨q6, hq6, hF⟩ := bd_ok hF
  refine xX8_become Z hP hS ck_79 ck_6 hq6 wd_34_2 hl.1 (Nat.le_of_ble_eq_true rfl) ⟨Nat.le_of_ble_eq_true rfl, Nat.le_of_ble_eq_true rfl⟩ dX9_heightsOf_8 (fun H locs hP hS => ?_)
  refine lv_iconst (v := (0 : Int32)) hx hb dX9_heightsOf_11 ic_0 ?_
  refine lv_istore_n (lv' := [(2, .int (0 : Int32)), (0, .ref (g.1 0)), (1, .int v1)]) hx hb dX9_heightsOf_12 rfl hl (Nat.le_of_ble_eq_true rfl) rfl (fun ls hl => ?_)
  refine lv_iconst (v := (0 : Int32)) hx hb dX9_heightsOf_13 ic_0 ?_
  refine lv_istore_n (lv' := [(3, .int (0 : Int32)), (2, .int (0 : Int32)), (0, .ref (g.1 0)), (1, .int v1)]) hx hb dX9_heightsOf_14 rfl hl (Nat.le_of_ble_eq_true rfl) rfl (fun ls hl => ?_)
  exact (hL15 FU) _ _ _ hF _ _ _ (lv_sub hl [2, 3, 1, 0] rfl) hP hS
theorem xX9_heightsOf {p : Program} {l : Launch} {e : Env} {R : Room} {s : State} {m : MethodId} {args : Array Value} {below : List Frame} {meth : Method} {c : Code} {H : Heap} {locs : List Loc} {Q : State → Prop} {cc : ByteArray} {nL : Nat} {own : String} {g : GG} {pc index : Nat} {ls : Array Slot} {rest : List Value} {mc mm : Mem} (Z : ZZ p s m args c cc nL own g) (hP : va_P g.2.2.1 vwCl (wL g mc mm) H) (hS : va_S (AA g s.heap.size) s.heap H locs) {v1 : Int32} {q : Int32 × Mem} (hq : F9_heightsOf v1 mc = some q) (hlk : Cond.methodLink own index yX9_heightsOf ∈ wsL_law) (hsz : ls.size = nL) (hro : (rest.map fun v => v.category).sum ≤ 8) (hR : 3 + 1 ≤ R.frames ∧ 8 + (4 + 11) + 82 ≤ R.locals) (hdg : decode cc pc = .ok (.invokevirtual index, 3)) (kk : ∀ (H : Heap) (locs : List Loc), va_P g.2.2.1 vwCl (wL g q.2 mm) H → va_S (AA g s.heap.size) s.heap H locs → W p l e R s m args below meth c H locs 0 0 Q (F0 m (pc + 3) ls (.int q.1 :: rest))) : W p l e R s m args below meth c H locs 0 0 Q (F0 m pc ls (.int v1 :: .ref (g.1 0) :: rest)) :=
  x_VI Z hP hS (kX9_heightsOf l g v1 mc mm q hq) (isO_w ck_0) (ci := 9) (by decide) rfl rfl mf_X9_heightsOf mv_X9_heightsOf hlk rfl rfl hsz hro hR hdg kk
theorem dX9_stone_0 : decode cX9_stone 0 = .ok (.iload_n 1, 1) := by decide +kernel
theorem dX9_stone_1 : decode cX9_stone 1 = .ok (.aload_n 0, 1) := by decide +kernel
theorem dX9_stone_2 : decode cX9_stone 2 = .ok (.getfield 21, 3) := by decide +kernel
theorem dX9_stone_5 : decode cX9_stone 5 = .ok (.getfield 119, 3) := by decide +kernel
theorem dX9_stone_8 : decode cX9_stone 8 = .ok (.invokestatic 101, 3) := by decide +kernel
theorem dX9_stone_11 : decode cX9_stone 11 = .ok (.ifCond .eq 11, 3) := by decide +kernel
theorem dX9_stone_14 : decode cX9_stone 14 = .ok (.iload_n 2, 1) := by decide +kernel
theorem dX9_stone_15 : decode cX9_stone 15 = .ok (.iconst 2, 1) := by decide +kernel
theorem dX9_stone_16 : decode cX9_stone 16 = .ok (.invokestatic 101, 3) := by decide +kernel
theorem dX9_stone_19 : decode cX9_stone 19 = .ok (.ifCond .ne 6, 3) := by decide +kernel
theorem dX9_stone_22 : decode cX9_stone 22 = .ok (.bipush (-2), 2) := by decide +kernel
theorem dX9_stone_24 : decode cX9_stone 24 = .ok (.ireturn, 1) := by decide +kernel
theorem dX9_stone_25 : decode cX9_stone 25 = .ok (.aload_n 0, 1) := by decide +kernel
theorem dX9_stone_26 : decode cX9_stone 26 = .ok (.invokevirtual 173, 3) := by decide +kernel
theorem dX9_stone_29 : decode cX9_stone 29 = .ok (.iload_n 2, 1) := by decide +kernel
theorem dX9_stone_30 : decode cX9_stone 30 = .ok (.ifCond .ne 11, 3) := by decide +kernel
theorem dX9_stone_33 : decode cX9_stone 33 = .ok (.aload_n 0, 1) := by decide +kernel
theorem dX9_stone_34 : decode cX9_stone 34 = .ok (.iload_n 1, 1) := by decide +kernel
theorem dX9_stone_35 : decode cX9_stone 35 = .ok (.invokevirtual 240, 3) := by decide +kernel
theorem dX9_stone_38 : decode cX9_stone 38 = .ok (.goto 8, 3) := by decide +kernel
theorem dX9_stone_41 : decode cX9_stone 41 = .ok (.aload_n 0, 1) := by decide +kernel
theorem dX9_stone_42 : decode cX9_stone 42 = .ok (.iload_n 1, 1) := by decide +kernel
theorem dX9_stone_43 : decode cX9_stone 43 = .ok (.invokevirtual 243, 3) := by decide +kernel
theorem dX9_stone_46 : decode cX9_stone 46 = .ok (.ireturn, 1) := by decide +kernel
noncomputable def F9_stone (v1 : Int32) (v2 : Int32) (mc : Mem) : Option (Int32 × Mem) :=
  ((F9_in v1 (mc 6 4)).bind (fun q6 => (if q6 = (0 : Int32) then some ((-2 : Int32), mc) else ((F9_in v2 (2 : Int32)).bind (fun q7 => (if q7 = (0 : Int32) then some ((-2 : Int32), mc) else ((F9_refresh mc).bind (fun q8 => (if v2 = (0 : Int32) then ((F9_stonesOf v1 q8).bind (fun q10 => (some (q10.1, q10.2)))) else ((F9_heightsOf v1 q8).bind (fun q9 => (some (q9.1, q9.2)))))))))))))
set_option maxHeartbeats 4000000 in
set_option maxRecDepth 100000 in
theorem kX9_stone (l : Launch) (g : GG) (v1 : Int32) (v2 : Int32) (mc mm : Mem) (q : Int32 × Mem) (hF : F9_stone v1 v2 mc = some q) : KI l yX9_stone cX9_stone 3 .int 4 105 g [.ref (g.1 0), .int v1, .int v2] mc mm q.1 (q.2, mm) := by
  intro sz
  refine x_start (Qc := fun z => QI g z q.1 (q.2, mm)) (by decide +kernel) (Nat.le_of_ble_eq_true rfl) ?_ sz
  intro p e s m args below meth c ls Z hr hlk hP hl
  have hx := Z.1.1
  have hb := Z.1.2.1
  have hown := Z.1.2.2.2.1
  have hts := Z.1.2.2.2.2
  have hS : va_S (AA g s.heap.size) s.heap s.heap [] := va_S.rf
  have hl : lv_has ls 3 [(0, .ref (g.1 0)), (1, .int v1), (2, .int v2)] := hl
  unfold F9_stone at hF
  refine lv_iload_n hx hb dX9_stone_0 rfl (lv_at hl 1 rfl) ?_
  refine lv_aload_n hx hb dX9_stone_1 rfl (lv_at hl 0 rfl) ?_
  refine gf9_1 Z hP wd_1_19 dX9_stone_2 ?_
  refine gf8_4N Z hP ck_6 nf_2 dX9_stone_5 ?_
  obtain ⟨q6, hq6, hF⟩ := bd_ok hF
  refine xX9_in Z hP hS hq6 wd_7_7 hl.1 (Nat.le_of_ble_eq_true rfl) ⟨Nat.le_of_ble_eq_true rfl, Nat.le_of_ble_eq_true rfl⟩ dX9_stone_8 (fun H locs hP hS => ?_)
  refine lv_if_eq (tgt := 22) hx hb dX9_stone_11 rfl (fun hc => ?_) (fun hc => ?_)
  · have hF := (if_pos hc).symm.trans hF
    refine lv_bipush (v := (-2 : Int32)) hx hb dX9_stone_22 bp_m2 ?_
    exact ret_IWC Z hr hlk hP hS hF dX9_stone_24
  · have hF := (if_neg hc).symm.trans hF
    refine lv_iload_n hx hb dX9_stone_14 rfl (lv_at hl 2 rfl) ?_
    refine lv_iconst (v := (2 : Int32)) hx hb dX9_stone_15 ic_2 ?_
    obtain ⟨q7, hq7, hF⟩ := bd_ok hF
    refine xX9_in Z hP hS hq7 wd_7_7 hl.1 (Nat.le_of_ble_eq_true rfl) ⟨Nat.le_of_ble_eq_true rfl, Nat.le_of_ble_eq_true rfl⟩ dX9_stone_16 (fun H locs hP hS => ?_)
    refine lv_if_ne (tgt := 25) hx hb dX9_stone_19 rfl (fun hc => ?_) (fun hc => ?_)
    · have hF := (if_neg hc).symm.trans hF
      refine lv_aload_n hx hb dX9_stone_25 rfl (lv_at hl 0 rfl) ?_
      obtain ⟨q8, hq8, hF⟩ := bd_ok hF
      refine xX9_refresh Z hP hS hq8 wd_20_10 hl.1 (Nat.le_of_ble_eq_true rfl) ⟨Nat.le_of_ble_eq_true rfl, Nat.le_of_ble_eq_true rfl⟩ dX9_stone_26 (fun H locs hP hS => ?_)
      refine lv_iload_n hx hb dX9_stone_29 rfl (lv_at hl 2 rfl) ?_
      refine lv_if_ne (tgt := 41) hx hb dX9_stone_30 rfl (fun hc => ?_) (fun hc => ?_)
      · have hF := (if_neg hc).symm.trans hF
        refine lv_aload_n hx hb dX9_stone_41 rfl (lv_at hl 0 rfl) ?_
        refine lv_iload_n hx hb dX9_stone_42 rfl (lv_at hl 1 rfl) ?_
        obtain ⟨q9, hq9, hF⟩ := bd_ok hF
        refine xX9_heightsOf Z hP hS hq9 wd_34_6 hl.1 (Nat.le_of_ble_eq_true rfl) ⟨Nat.le_of_ble_eq_true rfl, Nat.le_of_ble_eq_true rfl⟩ dX9_stone_43 (fun H locs hP hS => ?_)
        exact ret_IWC Z hr hlk hP hS hF dX9_stone_46
      · have hF := (if_pos hc).symm.trans hF
        refine lv_aload_n hx hb dX9_stone_33 rfl (lv_at hl 0 rfl) ?_
        refine lv_iload_n hx hb dX9_stone_34 rfl (lv_at hl 1 rfl) ?_
        obtain ⟨q10, hq10, hF⟩ := bd_ok hF
        refine xX9_stonesOf Z hP hS hq10 wd_33_22 hl.1 (Nat.le_of_ble_eq_true rfl) ⟨Nat.le_of_ble_eq_true rfl, Nat.le_of_ble_eq_true rfl⟩ dX9_stone_35 (fun H locs hP hS => ?_)
        refine lv_goto (tgt := 46) hx hb dX9_stone_38 rfl ?_
        exact ret_IWC Z hr hlk hP hS hF dX9_stone_46
    · have hF := (if_pos hc).symm.trans hF
      refine lv_bipush (v := (-2 : Int32)) hx hb dX9_stone_22 bp_m2 ?_
      exact ret_IWC Z hr hlk hP hS hF dX9_stone_24
theorem xX9_stone {p : Program} {l : Launch} {e : Env} {R : Room} {s : State} {m : MethodId} {args : Array Value} {below : List Frame} {meth : Method} {c : Code} {H : Heap} {locs : List Loc} {Q : State → Prop} {cc : ByteArray} {nL : Nat} {own : String} {g : GG} {pc index : Nat} {ls : Array Slot} {rest : List Value} {mc mm : Mem} (Z : ZZ p s m args c cc nL own g) (hP : va_P g.2.2.1 vwCl (wL g mc mm) H) (hS : va_S (AA g s.heap.size) s.heap H locs) {v1 : Int32} {v2 : Int32} {q : Int32 × Mem} (hq : F9_stone v1 v2 mc = some q) (hlk : Cond.methodLink own index yX9_stone ∈ wsL_law) (hsz : ls.size = nL) (hro : (rest.map fun v => v.category).sum ≤ 8) (hR : 4 + 1 ≤ R.frames ∧ 8 + (3 + 11) + 105 ≤ R.locals) (hdg : decode cc pc = .ok (.invokevirtual index, 3)) (kk : ∀ (H : Heap) (locs : List Loc), va_P g.2.2.1 vwCl (wL g q.2 mm) H → va_S (AA g s.heap.size) s.heap H locs → W p l e R s m args below meth c H locs 0 0 Q (F0 m (pc + 3) ls (.int q.1 :: rest))) : W p l e R s m args below meth c H locs 0 0 Q (F0 m pc ls (.int v2 :: .int v1 :: .ref (g.1 0) :: rest)) :=
  x_VI Z hP hS (kX9_stone l g v1 v2 mc mm q hq) (isO_w ck_0) (ci := 9) (by decide) rfl rfl mf_X9_stone mv_X9_stone hlk rfl rfl hsz hro hR hdg kk
theorem dX9_bucket_0 : decode cX9_bucket 0 = .ok (.iload_n 1, 1) := by decide +kernel
theorem dX9_bucket_1 : decode cX9_bucket 1 = .ok (.aload_n 0, 1) := by decide +kernel
theorem dX9_bucket_2 : decode cX9_bucket 2 = .ok (.getfield 28, 3) := by decide +kernel
theorem dX9_bucket_5 : decode cX9_bucket 5 = .ok (.getfield 134, 3) := by decide +kernel
theorem dX9_bucket_8 : decode cX9_bucket 8 = .ok (.invokestatic 101, 3) := by decide +kernel
theorem dX9_bucket_11 : decode cX9_bucket 11 = .ok (.ifCond .ne 6, 3) := by decide +kernel
theorem dX9_bucket_14 : decode cX9_bucket 14 = .ok (.bipush (-2), 2) := by decide +kernel
theorem dX9_bucket_16 : decode cX9_bucket 16 = .ok (.ireturn, 1) := by decide +kernel
theorem dX9_bucket_17 : decode cX9_bucket 17 = .ok (.aload_n 0, 1) := by decide +kernel
theorem dX9_bucket_18 : decode cX9_bucket 18 = .ok (.invokevirtual 173, 3) := by decide +kernel
theorem dX9_bucket_21 : decode cX9_bucket 21 = .ok (.iconst 0, 1) := by decide +kernel
theorem dX9_bucket_22 : decode cX9_bucket 22 = .ok (.istore_n 2, 1) := by decide +kernel
theorem dX9_bucket_23 : decode cX9_bucket 23 = .ok (.iconst 0, 1) := by decide +kernel
theorem dX9_bucket_24 : decode cX9_bucket 24 = .ok (.istore_n 3, 1) := by decide +kernel
theorem dX9_bucket_25 : decode cX9_bucket 25 = .ok (.iload_n 3, 1) := by decide +kernel
theorem dX9_bucket_26 : decode cX9_bucket 26 = .ok (.iconst 2, 1) := by decide +kernel
theorem dX9_bucket_27 : decode cX9_bucket 27 = .ok (.if_icmp .ge 32, 3) := by decide +kernel
theorem dX9_bucket_30 : decode cX9_bucket 30 = .ok (.aload_n 0, 1) := by decide +kernel
theorem dX9_bucket_31 : decode cX9_bucket 31 = .ok (.aload_n 0, 1) := by decide +kernel
theorem dX9_bucket_32 : decode cX9_bucket 32 = .ok (.getfield 21, 3) := by decide +kernel
theorem dX9_bucket_35 : decode cX9_bucket 35 = .ok (.aload_n 0, 1) := by decide +kernel
theorem dX9_bucket_36 : decode cX9_bucket 36 = .ok (.getfield 56, 3) := by decide +kernel
theorem dX9_bucket_39 : decode cX9_bucket 39 = .ok (.iload_n 1, 1) := by decide +kernel
theorem dX9_bucket_40 : decode cX9_bucket 40 = .ok (.iload_n 3, 1) := by decide +kernel
theorem dX9_bucket_41 : decode cX9_bucket 41 = .ok (.invokevirtual 236, 3) := by decide +kernel
theorem dX9_bucket_44 : decode cX9_bucket 44 = .ok (.ifCond .eq 9, 3) := by decide +kernel
theorem dX9_bucket_47 : decode cX9_bucket 47 = .ok (.iload_n 2, 1) := by decide +kernel
theorem dX9_bucket_48 : decode cX9_bucket 48 = .ok (.iconst 1, 1) := by decide +kernel
theorem dX9_bucket_49 : decode cX9_bucket 49 = .ok (.iload_n 3, 1) := by decide +kernel
theorem dX9_bucket_50 : decode cX9_bucket 50 = .ok (.ishl, 1) := by decide +kernel
theorem dX9_bucket_51 : decode cX9_bucket 51 = .ok (.ior, 1) := by decide +kernel
theorem dX9_bucket_52 : decode cX9_bucket 52 = .ok (.istore_n 2, 1) := by decide +kernel
theorem dX9_bucket_53 : decode cX9_bucket 53 = .ok (.iinc 3 1, 3) := by decide +kernel
theorem dX9_bucket_56 : decode cX9_bucket 56 = .ok (.goto (-31), 3) := by decide +kernel
theorem dX9_bucket_59 : decode cX9_bucket 59 = .ok (.iload_n 2, 1) := by decide +kernel
theorem dX9_bucket_60 : decode cX9_bucket 60 = .ok (.ireturn, 1) := by decide +kernel
noncomputable def F9_bucket_b53 (kh : Int32 → Int32 → Mem → Option (Int32 × Mem)) (v1 : Int32) (a2 : Int32) (a3 : Int32) (M : Mem) : Option (Int32 × Mem) :=
  kh a2 (a3 + (1 : Int32)) M
noncomputable def F9_bucket_p25 (kh : Int32 → Int32 → Mem → Option (Int32 × Mem)) (v1 : Int32) (a2 : Int32) (a3 : Int32) (M : Mem) : Option (Int32 × Mem) :=
  (if (2 : Int32) ≤ a3 then some (a2, M) else ((F9_comesOut 6 34 v1 a3 M).bind (fun q4 => (if q4.1 = (0 : Int32) then (F9_bucket_b53 kh v1) a2 a3 q4.2 else (F9_bucket_b53 kh v1) (a2 ||| ((1 : Int32) <<< (a3 &&& (31 : Int32)))) a3 q4.2))))
noncomputable def F9_bucket_h25 (v1 : Int32) : Nat → Int32 → Int32 → Mem → Option (Int32 × Mem)
  | 0, _, _, _ => none
  | n + 1, a2, a3, M => F9_bucket_p25 (F9_bucket_h25 v1 n) v1 a2 a3 M
noncomputable def F9_bucket (v1 : Int32) (mc : Mem) : Option (Int32 × Mem) :=
  ((F9_in v1 (mc 11 5)).bind (fun q5 => (if q5 = (0 : Int32) then some ((-2 : Int32), mc) else ((F9_refresh mc).bind (fun q6 => ((F9_bucket_h25 v1 FU) (0 : Int32) (0 : Int32) q6))))))
set_option maxHeartbeats 4000000 in
set_option maxRecDepth 100000 in
theorem kX9_bucket (l : Launch) (g : GG) (v1 : Int32) (mc mm : Mem) (q : Int32 × Mem) (hF : F9_bucket v1 mc = some q) : KI l yX9_bucket cX9_bucket 4 .int 3 82 g [.ref (g.1 0), .int v1] mc mm q.1 (q.2, mm) := by
  intro sz
  refine x_start (Qc := fun z => QI g z q.1 (q.2, mm)) (by decide +kernel) (Nat.le_of_ble_eq_true rfl) ?_ sz
  intro p e s m args below meth c ls Z hr hlk hP hl
  have hx := Z.1.1
  have hb := Z.1.2.1
  have hown := Z.1.2.2.2.1
  have hts := Z.1.2.2.2.2
  have hS : va_S (AA g s.heap.size) s.heap s.heap [] := va_S.rf
  have hl : lv_has ls 4 [(0, .ref (g.1 0)), (1, .int v1)] := hl
  unfold F9_bucket at hF
  have hL25 : ∀ n : Nat, ∀ (a2 : Int32) (a3 : Int32) (M : Mem), F9_bucket_h25 v1 n a2 a3 M = some q → ∀ (H : Heap) (locs : List Loc) (ls : Array Slot), lv_has ls 4 [(0, .ref (g.1 0)), (1, .int v1), (2, .int a2), (3, .int a3)] → va_P g.2.2.1 vwCl (wL g M mm) H → va_S (AA g s.heap.size) s.heap H locs → W p l e { frames := 3, cells := 0, slots := 0, locals := 82 } s m args below meth c H locs 0 0 (MQ below (QI g s.heap.size q.1 (q.2, mm)) args s 0 0 (AA g s.heap.size)) (F0 m 25 ls []) := by
    intro n
    induction n with
    | zero => intro a2 a3 M hF H locs ls hl hP hS; exact absurd hF (fun z => nomatch (show (none : Option _) = some q from z))
    | succ n ih =>
      generalize hkh : F9_bucket_h25 v1 n = kh at ih
      have hb53 : ∀ (a2 : Int32) (a3 : Int32) (M : Mem), F9_bucket_b53 kh v1 a2 a3 M = some q → ∀ (H : Heap) (locs : List Loc) (ls : Array Slot), lv_has ls 4 [(0, .ref (g.1 0)), (1, .int v1), (2, .int a2), (3, .int a3)] → va_P g.2.2.1 vwCl (wL g M mm) H → va_S (AA g s.heap.size) s.heap H locs → W p l e { frames := 3, cells := 0, slots := 0, locals := 82 } s m args below meth c H locs 0 0 (MQ below (QI g s.heap.size q.1 (q.2, mm)) args s 0 0 (AA g s.heap.size)) (F0 m 53 ls []) := by
        intro a2 a3 M hF H locs ls hl hP hS
        unfold F9_bucket_b53 at hF
        refine lv_iinc (lv' := [(3, .int (a3 + (1 : Int32))), (0, .ref (g.1 0)), (1, .int v1), (2, .int a2)]) (v := (a3 + (1 : Int32))) hx hb dX9_bucket_53 hl (k := 3) rfl (io_1 _) (Nat.le_of_ble_eq_true rfl) rfl (fun ls hl => ?_)
        refine lv_goto (tgt := 25) hx hb dX9_bucket_56 rfl ?_
        exact ih _ _ _ hF _ _ _ (lv_sub hl [1, 2, 3, 0] rfl) hP hS
      intro a2 a3 M hF H locs ls hl hP hS
      have hF : F9_bucket_p25 (F9_bucket_h25 v1 n) v1 a2 a3 M = some q := hF
      rw [hkh] at hF
      unfold F9_bucket_p25 at hF
      refine lv_iload_n hx hb dX9_bucket_25 rfl (lv_at hl 3 rfl) ?_
      refine lv_iconst (v := (2 : Int32)) hx hb dX9_bucket_26 ic_2 ?_
      refine lv_icmp_ge (tgt := 59) hx hb dX9_bucket_27 rfl (fun hc => ?_) (fun hc => ?_)
      · have hF := (if_pos hc).symm.trans hF
        refine lv_iload_n hx hb dX9_bucket_59 rfl (lv_at hl 2 rfl) ?_
        exact ret_IWC Z hr hlk hP hS hF dX9_bucket_60
      · have hF := (if_neg hc).symm.trans hF
        refine lv_aload_n hx hb dX9_bucket_30 rfl (lv_at hl 0 rfl) ?_
        refine lv_aload_n hx hb dX9_bucket_31 rfl (lv_at hl 0 rfl) ?_
        refine gf9_1 Z hP wd_1_19 dX9_bucket_32 ?_
        refine lv_aload_n hx hb dX9_bucket_35 rfl (lv_at hl 0 rfl) ?_
        refine gf9_7 Z hP wd_2_15 dX9_bucket_36 ?_
        refine lv_iload_n hx hb dX9_bucket_39 rfl (lv_at hl 1 rfl) ?_
        refine lv_iload_n hx hb dX9_bucket_40 rfl (lv_at hl 3 rfl) ?_
        obtain ⟨q4, hq4, hF⟩ := bd_ok hF
        refine xX9_comesOut Z hP hS ck_6 ck_34 hq4 wd_33_2 hl.1 (Nat.le_of_ble_eq_true rfl) ⟨Nat.le_of_ble_eq_true rfl, Nat.le_of_ble_eq_true rfl⟩ dX9_bucket_41 (fun H locs hP hS => ?_)
        refine lv_if_eq (tgt := 53) hx hb dX9_bucket_44 rfl (fun hc => ?_) (fun hc => ?_)
        · have hF := (if_pos hc).symm.trans hF
          exact hb53 _ _ _ hF _ _ _ (lv_sub hl [0, 1, 2, 3] rfl) hP hS
        · have hF := (if_neg hc).symm.trans hF
          refine lv_iload_n hx hb dX9_bucket_47 rfl (lv_at hl 2 rfl) ?_
          refine lv_iconst (v := (1 : Int32)) hx hb dX9_bucket_48 ic_1 ?_
          refine lv_iload_n hx hb dX9_bucket_49 rfl (lv_at hl 3 rfl) ?_
          refine lv_ishl hx hb dX9_bucket_50 ?_
          refine lv_ior hx hb dX9_bucket_51 ?_
          refine lv_istore_n (lv' := [(2, .int (a2 ||| ((1 : Int32) <<< (a3 &&& (31 : Int32))))), (0, .ref (g.1 0)), (1, .int v1), (3, .int a3)]) hx hb dX9_bucket_52 rfl hl (Nat.le_of_ble_eq_true rfl) rfl (fun ls hl => ?_)
          exact hb53 _ _ _ hF _ _ _ (lv_sub hl [1, 2, 0, 3] rfl) hP hS
  refine lv_iload_n hx hb dX9_bucket_0 rfl (lv_at hl 1 rfl) ?_
  refine lv_aload_n hx hb dX9_bucket_1 rfl (lv_at hl 0 rfl) ?_
  refine gf9_2 Z hP wd_1_23 dX9_bucket_2 ?_
  refine gf5_5N Z hP ck_11 nf_7 dX9_bucket_5 ?_
  obtain ⟨q5, hq5, hF⟩ := bd_ok hF
  refine xX9_in Z hP hS hq5 wd_7_7 hl.1 (Nat.le_of_ble_eq_true rfl) ⟨Nat.le_of_ble_eq_true rfl, Nat.le_of_ble_eq_true rfl⟩ dX9_bucket_8 (fun H locs hP hS => ?_)
  refine lv_if_ne (tgt := 17) hx hb dX9_bucket_11 rfl (fun hc => ?_) (fun hc => ?_)
  · have hF := (if_neg hc).symm.trans hF
    refine lv_aload_n hx hb dX9_bucket_17 rfl (lv_at hl 0 rfl) ?_
    obtain ⟨q6, hq6, hF⟩ := bd_ok hF
    refine xX9_refresh Z hP hS hq6 wd_20_10 hl.1 (Nat.le_of_ble_eq_true rfl) ⟨Nat.le_of_ble_eq_true rfl, Nat.le_of_ble_eq_true rfl⟩ dX9_bucket_18 (fun H locs hP hS => ?_)
    refine lv_iconst (v := (0 : Int32)) hx hb dX9_bucket_21 ic_0 ?_
    refine lv_istore_n (lv' := [(2, .int (0 : Int32)), (0, .ref (g.1 0)), (1, .int v1)]) hx hb dX9_bucket_22 rfl hl (Nat.le_of_ble_eq_true rfl) rfl (fun ls hl => ?_)
    refine lv_iconst (v := (0 : Int32)) hx hb dX9_bucket_23 ic_0 ?_
    refine lv_istore_n (lv' := [(3, .int (0 : Int32)), (2, .int (0 : Int32)), (0, .ref (g.1 0)), (1, .int v1)]) hx hb dX9_bucket_24 rfl hl (Nat.le_of_ble_eq_true rfl) rfl (fun ls hl => ?_)
    exact (hL25 FU) _ _ _ hF _ _ _ (lv_sub hl [2, 3, 1, 0] rfl) hP hS
  · have hF := (if_pos hc).symm.trans hF
    refine lv_bipush (v := (-2 : Int32)) hx hb dX9_bucket_14 bp_m2 ?_
    exact ret_IWC Z hr hlk hP hS hF dX9_bucket_16
theorem xX9_bucket {p : Program} {l : Launch} {e : Env} {R : Room} {s : State} {m : MethodId} {args : Array Value} {below : List Frame} {meth : Method} {c : Code} {H : Heap} {locs : List Loc} {Q : State → Prop} {cc : ByteArray} {nL : Nat} {own : String} {g : GG} {pc index : Nat} {ls : Array Slot} {rest : List Value} {mc mm : Mem} (Z : ZZ p s m args c cc nL own g) (hP : va_P g.2.2.1 vwCl (wL g mc mm) H) (hS : va_S (AA g s.heap.size) s.heap H locs) {v1 : Int32} {q : Int32 × Mem} (hq : F9_bucket v1 mc = some q) (hlk : Cond.methodLink own index yX9_bucket ∈ wsL_law) (hsz : ls.size = nL) (hro : (rest.map fun v => v.category).sum ≤ 8) (hR : 3 + 1 ≤ R.frames ∧ 8 + (4 + 11) + 82 ≤ R.locals) (hdg : decode cc pc = .ok (.invokevirtual index, 3)) (kk : ∀ (H : Heap) (locs : List Loc), va_P g.2.2.1 vwCl (wL g q.2 mm) H → va_S (AA g s.heap.size) s.heap H locs → W p l e R s m args below meth c H locs 0 0 Q (F0 m (pc + 3) ls (.int q.1 :: rest))) : W p l e R s m args below meth c H locs 0 0 Q (F0 m pc ls (.int v1 :: .ref (g.1 0) :: rest)) :=
  x_VI Z hP hS (kX9_bucket l g v1 mc mm q hq) (isO_w ck_0) (ci := 9) (by decide) rfl rfl mf_X9_bucket mv_X9_bucket hlk rfl rfl hsz hro hR hdg kk
theorem dX9_countInWell_0 : decode cX9_countInWell 0 = .ok (.aload_n 0, 1) := by decide +kernel
theorem dX9_countInWell_1 : decode cX9_countInWell 1 = .ok (.getfield 84, 3) := by decide +kernel
theorem dX9_countInWell_4 : decode cX9_countInWell 4 = .ok (.iconst 0, 1) := by decide +kernel
theorem dX9_countInWell_5 : decode cX9_countInWell 5 = .ok (.invokestatic 393, 3) := by decide +kernel
theorem dX9_countInWell_8 : decode cX9_countInWell 8 = .ok (.aload_n 0, 1) := by decide +kernel
theorem dX9_countInWell_9 : decode cX9_countInWell 9 = .ok (.getfield 71, 3) := by decide +kernel
theorem dX9_countInWell_12 : decode cX9_countInWell 12 = .ok (.aload_n 0, 1) := by decide +kernel
theorem dX9_countInWell_13 : decode cX9_countInWell 13 = .ok (.getfield 21, 3) := by decide +kernel
theorem dX9_countInWell_16 : decode cX9_countInWell 16 = .ok (.invokevirtual 413, 3) := by decide +kernel
theorem dX9_countInWell_19 : decode cX9_countInWell 19 = .ok (.iconst 0, 1) := by decide +kernel
theorem dX9_countInWell_20 : decode cX9_countInWell 20 = .ok (.istore_n 3, 1) := by decide +kernel
theorem dX9_countInWell_21 : decode cX9_countInWell 21 = .ok (.iload_n 3, 1) := by decide +kernel
theorem dX9_countInWell_22 : decode cX9_countInWell 22 = .ok (.bipush 10, 2) := by decide +kernel
theorem dX9_countInWell_24 : decode cX9_countInWell 24 = .ok (.if_icmp .ge 141, 3) := by decide +kernel
theorem dX9_countInWell_27 : decode cX9_countInWell 27 = .ok (.iload_n 2, 1) := by decide +kernel
theorem dX9_countInWell_28 : decode cX9_countInWell 28 = .ok (.iload_n 3, 1) := by decide +kernel
theorem dX9_countInWell_29 : decode cX9_countInWell 29 = .ok (.ishr, 1) := by decide +kernel
theorem dX9_countInWell_30 : decode cX9_countInWell 30 = .ok (.iconst 1, 1) := by decide +kernel
theorem dX9_countInWell_31 : decode cX9_countInWell 31 = .ok (.iand, 1) := by decide +kernel
theorem dX9_countInWell_32 : decode cX9_countInWell 32 = .ok (.ifCond .ne 6, 3) := by decide +kernel
theorem dX9_countInWell_35 : decode cX9_countInWell 35 = .ok (.goto 124, 3) := by decide +kernel
theorem dX9_countInWell_38 : decode cX9_countInWell 38 = .ok (.aload_n 0, 1) := by decide +kernel
theorem dX9_countInWell_39 : decode cX9_countInWell 39 = .ok (.getfield 71, 3) := by decide +kernel
theorem dX9_countInWell_42 : decode cX9_countInWell 42 = .ok (.iload_n 1, 1) := by decide +kernel
theorem dX9_countInWell_43 : decode cX9_countInWell 43 = .ok (.iload_n 3, 1) := by decide +kernel
theorem dX9_countInWell_44 : decode cX9_countInWell 44 = .ok (.invokevirtual 417, 3) := by decide +kernel
theorem dX9_countInWell_47 : decode cX9_countInWell 47 = .ok (.iconst 0, 1) := by decide +kernel
theorem dX9_countInWell_48 : decode cX9_countInWell 48 = .ok (.istore 4, 2) := by decide +kernel
theorem dX9_countInWell_50 : decode cX9_countInWell 50 = .ok (.iload 4, 2) := by decide +kernel
theorem dX9_countInWell_52 : decode cX9_countInWell 52 = .ok (.aload_n 0, 1) := by decide +kernel
theorem dX9_countInWell_53 : decode cX9_countInWell 53 = .ok (.getfield 28, 3) := by decide +kernel
theorem dX9_countInWell_56 : decode cX9_countInWell 56 = .ok (.getfield 134, 3) := by decide +kernel
theorem dX9_countInWell_59 : decode cX9_countInWell 59 = .ok (.if_icmp .ge 100, 3) := by decide +kernel
theorem dX9_countInWell_62 : decode cX9_countInWell 62 = .ok (.aload_n 0, 1) := by decide +kernel
theorem dX9_countInWell_63 : decode cX9_countInWell 63 = .ok (.getfield 80, 3) := by decide +kernel
theorem dX9_countInWell_66 : decode cX9_countInWell 66 = .ok (.aload_n 0, 1) := by decide +kernel
theorem dX9_countInWell_67 : decode cX9_countInWell 67 = .ok (.getfield 71, 3) := by decide +kernel
theorem dX9_countInWell_70 : decode cX9_countInWell 70 = .ok (.aload_n 0, 1) := by decide +kernel
theorem dX9_countInWell_71 : decode cX9_countInWell 71 = .ok (.getfield 56, 3) := by decide +kernel
theorem dX9_countInWell_74 : decode cX9_countInWell 74 = .ok (.aload_n 0, 1) := by decide +kernel
theorem dX9_countInWell_75 : decode cX9_countInWell 75 = .ok (.getfield 28, 3) := by decide +kernel
theorem dX9_countInWell_78 : decode cX9_countInWell 78 = .ok (.iload 4, 2) := by decide +kernel
theorem dX9_countInWell_80 : decode cX9_countInWell 80 = .ok (.aload_n 0, 1) := by decide +kernel
theorem dX9_countInWell_81 : decode cX9_countInWell 81 = .ok (.getfield 28, 3) := by decide +kernel
theorem dX9_countInWell_84 : decode cX9_countInWell 84 = .ok (.getfield 138, 3) := by decide +kernel
theorem dX9_countInWell_87 : decode cX9_countInWell 87 = .ok (.iload 4, 2) := by decide +kernel
theorem dX9_countInWell_89 : decode cX9_countInWell 89 = .ok (.iaload, 1) := by decide +kernel
theorem dX9_countInWell_90 : decode cX9_countInWell 90 = .ok (.aload_n 0, 1) := by decide +kernel
theorem dX9_countInWell_91 : decode cX9_countInWell 91 = .ok (.getfield 28, 3) := by decide +kernel
theorem dX9_countInWell_94 : decode cX9_countInWell 94 = .ok (.getfield 141, 3) := by decide +kernel
theorem dX9_countInWell_97 : decode cX9_countInWell 97 = .ok (.iload 4, 2) := by decide +kernel
theorem dX9_countInWell_99 : decode cX9_countInWell 99 = .ok (.iaload, 1) := by decide +kernel
theorem dX9_countInWell_100 : decode cX9_countInWell 100 = .ok (.invokevirtual 198, 3) := by decide +kernel
theorem dX9_countInWell_103 : decode cX9_countInWell 103 = .ok (.iconst 0, 1) := by decide +kernel
theorem dX9_countInWell_104 : decode cX9_countInWell 104 = .ok (.istore 5, 2) := by decide +kernel
theorem dX9_countInWell_106 : decode cX9_countInWell 106 = .ok (.iload 5, 2) := by decide +kernel
theorem dX9_countInWell_108 : decode cX9_countInWell 108 = .ok (.bipush 40, 2) := by decide +kernel
theorem dX9_countInWell_110 : decode cX9_countInWell 110 = .ok (.if_icmp .ge 43, 3) := by decide +kernel
theorem dX9_countInWell_113 : decode cX9_countInWell 113 = .ok (.aload_n 0, 1) := by decide +kernel
theorem dX9_countInWell_114 : decode cX9_countInWell 114 = .ok (.getfield 84, 3) := by decide +kernel
theorem dX9_countInWell_117 : decode cX9_countInWell 117 = .ok (.iload_n 3, 1) := by decide +kernel
theorem dX9_countInWell_118 : decode cX9_countInWell 118 = .ok (.bipush 40, 2) := by decide +kernel
theorem dX9_countInWell_120 : decode cX9_countInWell 120 = .ok (.imul, 1) := by decide +kernel
theorem dX9_countInWell_121 : decode cX9_countInWell 121 = .ok (.iload 5, 2) := by decide +kernel
theorem dX9_countInWell_123 : decode cX9_countInWell 123 = .ok (.iadd, 1) := by decide +kernel
theorem dX9_countInWell_124 : decode cX9_countInWell 124 = .ok (.dup2, 1) := by decide +kernel
theorem dX9_countInWell_125 : decode cX9_countInWell 125 = .ok (.iaload, 1) := by decide +kernel
theorem dX9_countInWell_126 : decode cX9_countInWell 126 = .ok (.aload_n 0, 1) := by decide +kernel
theorem dX9_countInWell_127 : decode cX9_countInWell 127 = .ok (.getfield 80, 3) := by decide +kernel
theorem dX9_countInWell_130 : decode cX9_countInWell 130 = .ok (.getfield 179, 3) := by decide +kernel
theorem dX9_countInWell_133 : decode cX9_countInWell 133 = .ok (.iload 5, 2) := by decide +kernel
theorem dX9_countInWell_135 : decode cX9_countInWell 135 = .ok (.iaload, 1) := by decide +kernel
theorem dX9_countInWell_136 : decode cX9_countInWell 136 = .ok (.iload_n 1, 1) := by decide +kernel
theorem dX9_countInWell_137 : decode cX9_countInWell 137 = .ok (.if_icmp .ne 7, 3) := by decide +kernel
theorem dX9_countInWell_140 : decode cX9_countInWell 140 = .ok (.iconst 1, 1) := by decide +kernel
theorem dX9_countInWell_141 : decode cX9_countInWell 141 = .ok (.goto 4, 3) := by decide +kernel
theorem dX9_countInWell_144 : decode cX9_countInWell 144 = .ok (.iconst 0, 1) := by decide +kernel
theorem dX9_countInWell_145 : decode cX9_countInWell 145 = .ok (.iadd, 1) := by decide +kernel
theorem dX9_countInWell_146 : decode cX9_countInWell 146 = .ok (.iastore, 1) := by decide +kernel
theorem dX9_countInWell_147 : decode cX9_countInWell 147 = .ok (.iinc 5 1, 3) := by decide +kernel
theorem dX9_countInWell_150 : decode cX9_countInWell 150 = .ok (.goto (-44), 3) := by decide +kernel
theorem dX9_countInWell_153 : decode cX9_countInWell 153 = .ok (.iinc 4 1, 3) := by decide +kernel
theorem dX9_countInWell_156 : decode cX9_countInWell 156 = .ok (.goto (-106), 3) := by decide +kernel
theorem dX9_countInWell_159 : decode cX9_countInWell 159 = .ok (.iinc 3 1, 3) := by decide +kernel
theorem dX9_countInWell_162 : decode cX9_countInWell 162 = .ok (.goto (-141), 3) := by decide +kernel
theorem dX9_countInWell_165 : decode cX9_countInWell 165 = .ok (.return_, 1) := by decide +kernel
noncomputable def F9_countInWell_b159 (kh : Int32 → Mem → Option (Mem)) (v1 : Int32) (v2 : Int32) (a3 : Int32) (M : Mem) : Option (Mem) :=
  kh (a3 + (1 : Int32)) M
noncomputable def F9_countInWell_b153 (kh : Int32 → Int32 → Mem → Option (Mem)) (kx159 : Int32 → Mem → Option (Mem)) (v1 : Int32) (v2 : Int32) (a3 : Int32) (a4 : Int32) (M : Mem) : Option (Mem) :=
  kh a3 (a4 + (1 : Int32)) M
noncomputable def F9_countInWell_b145 (kh : Int32 → Int32 → Int32 → Mem → Option (Mem)) (kx153 : Int32 → Int32 → Mem → Option (Mem)) (v1 : Int32) (v2 : Int32) (a3 : Int32) (a4 : Int32) (a5 : Int32) (s0 : Nat) (s1 : Int32) (s2 : Int32) (s3 : Int32) (M : Mem) : Option (Mem) :=
  (ck s1 400 (kh a3 a4 (a5 + (1 : Int32)) (mset M s0 s1.toNatClampNeg (s2 + s3))))
noncomputable def F9_countInWell_p106 (kh : Int32 → Int32 → Int32 → Mem → Option (Mem)) (kx153 : Int32 → Int32 → Mem → Option (Mem)) (v1 : Int32) (v2 : Int32) (a3 : Int32) (a4 : Int32) (a5 : Int32) (M : Mem) : Option (Mem) :=
  (if (40 : Int32) ≤ a5 then kx153 a3 a4 M else (ck ((a3 * (40 : Int32)) + a5) 400 (ck a5 40 (if (M 93 a5.toNatClampNeg) = v1 then (F9_countInWell_b145 kh kx153 v1 v2) a3 a4 a5 97 ((a3 * (40 : Int32)) + a5) (M 97 ((a3 * (40 : Int32)) + a5).toNatClampNeg) (1 : Int32) M else (F9_countInWell_b145 kh kx153 v1 v2) a3 a4 a5 97 ((a3 * (40 : Int32)) + a5) (M 97 ((a3 * (40 : Int32)) + a5).toNatClampNeg) (0 : Int32) M))))
noncomputable def F9_countInWell_h106 (kx153 : Int32 → Int32 → Mem → Option (Mem)) (v1 : Int32) (v2 : Int32) : Nat → Int32 → Int32 → Int32 → Mem → Option (Mem)
  | 0, _, _, _, _ => none
  | n + 1, a3, a4, a5, M => F9_countInWell_p106 (F9_countInWell_h106 kx153 v1 v2 n) kx153 v1 v2 a3 a4 a5 M
noncomputable def F9_countInWell_p50 (kh : Int32 → Int32 → Mem → Option (Mem)) (kx159 : Int32 → Mem → Option (Mem)) (v1 : Int32) (v2 : Int32) (a3 : Int32) (a4 : Int32) (M : Mem) : Option (Mem) :=
  (if (M 11 5) ≤ a4 then kx159 a3 M else (ck a4 8 (ck a4 8 ((F4_follow 92 79 34 11 a4 (M 13 a4.toNatClampNeg) (M 14 a4.toNatClampNeg) M).bind (fun q15 => ((F9_countInWell_h106 (F9_countInWell_b153 kh kx159 v1 v2) v1 v2 FU) a3 a4 (0 : Int32) q15))))))
noncomputable def F9_countInWell_h50 (kx159 : Int32 → Mem → Option (Mem)) (v1 : Int32) (v2 : Int32) : Nat → Int32 → Int32 → Mem → Option (Mem)
  | 0, _, _, _ => none
  | n + 1, a3, a4, M => F9_countInWell_p50 (F9_countInWell_h50 kx159 v1 v2 n) kx159 v1 v2 a3 a4 M
noncomputable def F9_countInWell_p21 (kh : Int32 → Mem → Option (Mem)) (v1 : Int32) (v2 : Int32) (a3 : Int32) (M : Mem) : Option (Mem) :=
  (if (10 : Int32) ≤ a3 then some M else (if ((v2 >>> (a3 &&& (31 : Int32))) &&& (1 : Int32)) = (0 : Int32) then (F9_countInWell_b159 kh v1 v2) a3 M else ((F8_raise 79 v1 a3 M).bind (fun q16 => ((F9_countInWell_h50 (F9_countInWell_b159 kh v1 v2) v1 v2 FU) a3 (0 : Int32) q16)))))
noncomputable def F9_countInWell_h21 (v1 : Int32) (v2 : Int32) : Nat → Int32 → Mem → Option (Mem)
  | 0, _, _ => none
  | n + 1, a3, M => F9_countInWell_p21 (F9_countInWell_h21 v1 v2 n) v1 v2 a3 M
noncomputable def F9_countInWell (v1 : Int32) (v2 : Int32) (mc : Mem) : Option (Mem) :=
  ((F7_fill_53178 97 (0 : Int32) mc).bind (fun q17 => ((F8_become 79 6 q17).bind (fun q18 => ((F9_countInWell_h21 v1 v2 FU) (0 : Int32) q18)))))
set_option maxHeartbeats 4000000 in
set_option maxRecDepth 100000 in
theorem kX9_countInWell (l : Launch) (g : GG) (v1 : Int32) (v2 : Int32) (mc mm : Mem) (q : Mem) (hF : F9_countInWell v1 v2 mc = some q) : KV l yX9_countInWell cX9_countInWell 6 2 56 g [.ref (g.1 0), .int v1, .int v2] mc mm (q, mm) := by
  intro sz
  refine x_start (Qc := fun z => QV g z (q, mm)) (by decide +kernel) (Nat.le_of_ble_eq_true rfl) ?_ sz
  intro p e s m args below meth c ls Z hr hlk hP hl
  have hx := Z.1.1
  have hb := Z.1.2.1
  have hown := Z.1.2.2.2.1
  have hts := Z.1.2.2.2.2
  have hS : va_S (AA g s.heap.size) s.heap s.heap [] := va_S.rf
  have hl : lv_has ls 6 [(0, .ref (g.1 0)), (1, .int v1), (2, .int v2)] := hl
  unfold F9_countInWell at hF
  have hL21 : ∀ n : Nat, ∀ (a3 : Int32) (M : Mem), F9_countInWell_h21 v1 v2 n a3 M = some q → ∀ (H : Heap) (locs : List Loc) (ls : Array Slot), lv_has ls 6 [(0, .ref (g.1 0)), (1, .int v1), (2, .int v2), (3, .int a3)] → va_P g.2.2.1 vwCl (wL g M mm) H → va_S (AA g s.heap.size) s.heap H locs → W p l e { frames := 2, cells := 0, slots := 0, locals := 56 } s m args below meth c H locs 0 0 (MQ below (QV g s.heap.size (q, mm)) args s 0 0 (AA g s.heap.size)) (F0 m 21 ls []) := by
    intro n
    induction n with
    | zero => intro a3 M hF H locs ls hl hP hS; exact absurd hF (fun z => nomatch (show (none : Option _) = some q from z))
    | succ n ih =>
      generalize hkh : F9_countInWell_h21 v1 v2 n = kh at ih
      have hb159 : ∀ (a3 : Int32) (M : Mem), F9_countInWell_b159 kh v1 v2 a3 M = some q → ∀ (H : Heap) (locs : List Loc) (ls : Array Slot), lv_has ls 6 [(0, .ref (g.1 0)), (1, .int v1), (2, .int v2), (3, .int a3)] → va_P g.2.2.1 vwCl (wL g M mm) H → va_S (AA g s.heap.size) s.heap H locs → W p l e { frames := 2, cells := 0, slots := 0, locals := 56 } s m args below meth c H locs 0 0 (MQ below (QV g s.heap.size (q, mm)) args s 0 0 (AA g s.heap.size)) (F0 m 159 ls []) := by
        intro a3 M hF H locs ls hl hP hS
        unfold F9_countInWell_b159 at hF
        refine lv_iinc (lv' := [(3, .int (a3 + (1 : Int32))), (0, .ref (g.1 0)), (1, .int v1), (2, .int v2)]) (v := (a3 + (1 : Int32))) hx hb dX9_countInWell_159 hl (k := 3) rfl (io_1 _) (Nat.le_of_ble_eq_true rfl) rfl (fun ls hl => ?_)
        refine lv_goto (tgt := 21) hx hb dX9_countInWell_162 rfl ?_
        exact ih _ _ hF _ _ _ (lv_sub hl [1, 2, 3, 0] rfl) hP hS
      have hL50 : ∀ (kx159 : Int32 → Mem → Option (Mem)), (∀ (a3 : Int32) (M : Mem), kx159 a3 M = some q → ∀ (H : Heap) (locs : List Loc) (ls : Array Slot), lv_has ls 6 [(0, .ref (g.1 0)), (1, .int v1), (2, .int v2), (3, .int a3)] → va_P g.2.2.1 vwCl (wL g M mm) H → va_S (AA g s.heap.size) s.heap H locs → W p l e { frames := 2, cells := 0, slots := 0, locals := 56 } s m args below meth c H locs 0 0 (MQ below (QV g s.heap.size (q, mm)) args s 0 0 (AA g s.heap.size)) (F0 m 159 ls [])) → ∀ n : Nat, ∀ (a3 : Int32) (a4 : Int32) (M : Mem), F9_countInWell_h50 kx159 v1 v2 n a3 a4 M = some q → ∀ (H : Heap) (locs : List Loc) (ls : Array Slot), lv_has ls 6 [(0, .ref (g.1 0)), (1, .int v1), (2, .int v2), (3, .int a3), (4, .int a4)] → va_P g.2.2.1 vwCl (wL g M mm) H → va_S (AA g s.heap.size) s.heap H locs → W p l e { frames := 2, cells := 0, slots := 0, locals := 56 } s m args below meth c H locs 0 0 (MQ below (QV g s.heap.size (q, mm)) args s 0 0 (AA g s.heap.size)) (F0 m 50 ls []) := by
        intro kx159 hx159 n
        induction n with
        | zero => intro a3 a4 M hF H locs ls hl hP hS; exact absurd hF (fun z => nomatch (show (none : Option _) = some q from z))
        | succ n ih =>
          generalize hkh : F9_countInWell_h50 kx159 v1 v2 n = kh at ih
          have hb153 : ∀ (a3 : Int32) (a4 : Int32) (M : Mem), F9_countInWell_b153 kh kx159 v1 v2 a3 a4 M = some q → ∀ (H : Heap) (locs : List Loc) (ls : Array Slot), lv_has ls 6 [(0, .ref (g.1 0)), (1, .int v1), (2, .int v2), (3, .int a3), (4, .int a4)] → va_P g.2.2.1 vwCl (wL g M mm) H → va_S (AA g s.heap.size) s.heap H locs → W p l e { frames := 2, cells := 0, slots := 0, locals := 56 } s m args below meth c H locs 0 0 (MQ below (QV g s.heap.size (q, mm)) args s 0 0 (AA g s.heap.size)) (F0 m 153 ls []) := by
            intro a3 a4 M hF H locs ls hl hP hS
            unfold F9_countInWell_b153 at hF
            refine lv_iinc (lv' := [(4, .int (a4 + (1 : Int32))), (0, .ref (g.1 0)), (1, .int v1), (2, .int v2), (3, .int a3)]) (v := (a4 + (1 : Int32))) hx hb dX9_countInWell_153 hl (k := 4) rfl (io_1 _) (Nat.le_of_ble_eq_true rfl) rfl (fun ls hl => ?_)
            refine lv_goto (tgt := 50) hx hb dX9_countInWell_156 rfl ?_
            exact ih _ _ _ hF _ _ _ (lv_sub hl [1, 2, 3, 4, 0] rfl) hP hS
          have hL106 : ∀ (kx153 : Int32 → Int32 → Mem → Option (Mem)), (∀ (a3 : Int32) (a4 : Int32) (M : Mem), kx153 a3 a4 M = some q → ∀ (H : Heap) (locs : List Loc) (ls : Array Slot), lv_has ls 6 [(0, .ref (g.1 0)), (1, .int v1), (2, .int v2), (3, .int a3), (4, .int a4)] → va_P g.2.2.1 vwCl (wL g M mm) H → va_S (AA g s.heap.size) s.heap H locs → W p l e { frames := 2, cells := 0, slots := 0, locals := 56 } s m args below meth c H locs 0 0 (MQ below (QV g s.heap.size (q, mm)) args s 0 0 (AA g s.heap.size)) (F0 m 153 ls [])) → ∀ n : Nat, ∀ (a3 : Int32) (a4 : Int32) (a5 : Int32) (M : Mem), F9_countInWell_h106 kx153 v1 v2 n a3 a4 a5 M = some q → ∀ (H : Heap) (locs : List Loc) (ls : Array Slot), lv_has ls 6 [(0, .ref (g.1 0)), (1, .int v1), (2, .int v2), (3, .int a3), (4, .int a4), (5, .int a5)] → va_P g.2.2.1 vwCl (wL g M mm) H → va_S (AA g s.heap.size) s.heap H locs → W p l e { frames := 2, cells := 0, slots := 0, locals := 56 } s m args below meth c H locs 0 0 (MQ below (QV g s.heap.size (q, mm)) args s 0 0 (AA g s.heap.size)) (F0 m 106 ls []) := by
            intro kx153 hx153 n
            induction n with
            | zero => intro a3 a4 a5 M hF H locs ls hl hP hS; exact absurd hF (fun z => nomatch (show (none : Option _) = some q from z))
            | succ n ih =>
              generalize hkh : F9_countInWell_h106 kx153 v1 v2 n = kh at ih
              have hb145 : ∀ (a3 : Int32) (a4 : Int32) (a5 : Int32) (s0 : Nat) (s1 : Int32) (s2 : Int32) (s3 : Int32) (M : Mem), F9_countInWell_b145 kh kx153 v1 v2 a3 a4 a5 s0 s1 s2 s3 M = some q → isA 400 s0 → ∀ (H : Heap) (locs : List Loc) (ls : Array Slot), lv_has ls 6 [(0, .ref (g.1 0)), (1, .int v1), (2, .int v2), (3, .int a3), (4, .int a4), (5, .int a5)] → va_P g.2.2.1 vwCl (wL g M mm) H → va_S (AA g s.heap.size) s.heap H locs → W p l e { frames := 2, cells := 0, slots := 0, locals := 56 } s m args below meth c H locs 0 0 (MQ below (QV g s.heap.size (q, mm)) args s 0 0 (AA g s.heap.size)) (F0 m 145 ls [.int s3, .int s2, .int s1, .ref (g.1 s0)]) := by
                intro a3 a4 a5 s0 s1 s2 s3 M hF h_s0 H locs ls hl hP hS
                unfold F9_countInWell_b145 at hF
                refine lv_iadd hx hb dX9_countInWell_145 ?_
                obtain ⟨hi10, hF⟩ := ck_ok hF
                refine ra_st Z hP hS h_s0 hi10 dX9_countInWell_146 (fun H locs hP hS => ?_)
                refine lv_iinc (lv' := [(5, .int (a5 + (1 : Int32))), (0, .ref (g.1 0)), (1, .int v1), (2, .int v2), (3, .int a3), (4, .int a4)]) (v := (a5 + (1 : Int32))) hx hb dX9_countInWell_147 hl (k := 5) rfl (io_1 _) (Nat.le_of_ble_eq_true rfl) rfl (fun ls hl => ?_)
                refine lv_goto (tgt := 106) hx hb dX9_countInWell_150 rfl ?_
                exact ih _ _ _ _ hF _ _ _ (lv_sub hl [1, 2, 3, 4, 5, 0] rfl) hP hS
              intro a3 a4 a5 M hF H locs ls hl hP hS
              have hF : F9_countInWell_p106 (F9_countInWell_h106 kx153 v1 v2 n) kx153 v1 v2 a3 a4 a5 M = some q := hF
              rw [hkh] at hF
              unfold F9_countInWell_p106 at hF
              refine lv_iload hx hb dX9_countInWell_106 (lv_at hl 5 rfl) ?_
              refine lv_bipush (v := (40 : Int32)) hx hb dX9_countInWell_108 bp_40 ?_
              refine lv_icmp_ge (tgt := 153) hx hb dX9_countInWell_110 rfl (fun hc => ?_) (fun hc => ?_)
              · have hF := (if_pos hc).symm.trans hF
                exact hx153 _ _ _ hF _ _ _ (lv_sub hl [0, 1, 2, 3, 4] rfl) hP hS
              · have hF := (if_neg hc).symm.trans hF
                refine lv_aload_n hx hb dX9_countInWell_113 rfl (lv_at hl 0 rfl) ?_
                refine gf9_14 Z hP wd_3_2 dX9_countInWell_114 ?_
                refine lv_iload_n hx hb dX9_countInWell_117 rfl (lv_at hl 3 rfl) ?_
                refine lv_bipush (v := (40 : Int32)) hx hb dX9_countInWell_118 bp_40 ?_
                refine lv_imul hx hb dX9_countInWell_120 ?_
                refine lv_iload hx hb dX9_countInWell_121 (lv_at hl 5 rfl) ?_
                refine lv_iadd hx hb dX9_countInWell_123 ?_
                refine lv_dup2_11 hx hb dX9_countInWell_124 rfl rfl ?_
                obtain ⟨hi11, hF⟩ := ck_ok hF
                refine ra_ld Z hP ck_97 hi11 dX9_countInWell_125 ?_
                refine lv_aload_n hx hb dX9_countInWell_126 rfl (lv_at hl 0 rfl) ?_
                refine gf9_13 Z hP wd_3_0 dX9_countInWell_127 ?_
                refine gf4_0N Z hP ck_92 nf_14 dX9_countInWell_130 ?_
                refine lv_iload hx hb dX9_countInWell_133 (lv_at hl 5 rfl) ?_
                obtain ⟨hi12, hF⟩ := ck_ok hF
                refine ra_ld Z hP (ia_4_0 ck_92) hi12 dX9_countInWell_135 ?_
                refine lv_iload_n hx hb dX9_countInWell_136 rfl (lv_at hl 1 rfl) ?_
                refine lv_icmp_ne (tgt := 144) hx hb dX9_countInWell_137 rfl (fun hc => ?_) (fun hc => ?_)
                · have hF := (if_neg hc).symm.trans hF
                  refine lv_iconst (v := (0 : Int32)) hx hb dX9_countInWell_144 ic_0 ?_
                  exact hb145 _ _ _ _ _ _ _ _ hF ck_97 _ _ _ (lv_sub hl [0, 1, 2, 3, 4, 5] rfl) hP hS
                · have hF := (if_pos hc).symm.trans hF
                  refine lv_iconst (v := (1 : Int32)) hx hb dX9_countInWell_140 ic_1 ?_
                  refine lv_goto (tgt := 145) hx hb dX9_countInWell_141 rfl ?_
                  exact hb145 _ _ _ _ _ _ _ _ hF ck_97 _ _ _ (lv_sub hl [0, 1, 2, 3, 4, 5] rfl) hP hS
          intro a3 a4 M hF H locs ls hl hP hS
          have hF : F9_countInWell_p50 (F9_countInWell_h50 kx159 v1 v2 n) kx159 v1 v2 a3 a4 M = some q := hF
          rw [hkh] at hF
          unfold F9_countInWell_p50 at hF
          refine lv_iload hx hb dX9_countInWell_50 (lv_at hl 4 rfl) ?_
          refine lv_aload_n hx hb dX9_countInWell_52 rfl (lv_at hl 0 rfl) ?_
          refine gf9_2 Z hP wd_1_23 dX9_countInWell_53 ?_
          refine gf5_5N Z hP ck_11 nf_7 dX9_countInWell_56 ?_
          refine lv_icmp_ge (tgt := 159) hx hb dX9_countInWell_59 rfl (fun hc => ?_) (fun hc => ?_)
          · have hF := (if_pos hc).symm.trans hF
            exact hx159 _ _ hF _ _ _ (lv_sub hl [0, 1, 2, 3] rfl) hP hS
          · have hF := (if_neg hc).symm.trans hF
            refine lv_aload_n hx hb dX9_countInWell_62 rfl (lv_at hl 0 rfl) ?_
            refine gf9_13 Z hP wd_3_0 dX9_countInWell_63 ?_
            refine lv_aload_n hx hb dX9_countInWell_66 rfl (lv_at hl 0 rfl) ?_
            refine gf9_10 Z hP wd_2_21 dX9_countInWell_67 ?_
            refine lv_aload_n hx hb dX9_countInWell_70 rfl (lv_at hl 0 rfl) ?_
            refine gf9_7 Z hP wd_2_15 dX9_countInWell_71 ?_
            refine lv_aload_n hx hb dX9_countInWell_74 rfl (lv_at hl 0 rfl) ?_
            refine gf9_2 Z hP wd_1_23 dX9_countInWell_75 ?_
            refine lv_iload hx hb dX9_countInWell_78 (lv_at hl 4 rfl) ?_
            refine lv_aload_n hx hb dX9_countInWell_80 rfl (lv_at hl 0 rfl) ?_
            refine gf9_2 Z hP wd_1_23 dX9_countInWell_81 ?_
            refine gf5_1N Z hP ck_11 nf_9 dX9_countInWell_84 ?_
            refine lv_iload hx hb dX9_countInWell_87 (lv_at hl 4 rfl) ?_
            obtain ⟨hi13, hF⟩ := ck_ok hF
            refine ra_ld Z hP (ia_5_1 ck_11) hi13 dX9_countInWell_89 ?_
            refine lv_aload_n hx hb dX9_countInWell_90 rfl (lv_at hl 0 rfl) ?_
            refine gf9_2 Z hP wd_1_23 dX9_countInWell_91 ?_
            refine gf5_2N Z hP ck_11 nf_10 dX9_countInWell_94 ?_
            refine lv_iload hx hb dX9_countInWell_97 (lv_at hl 4 rfl) ?_
            obtain ⟨hi14, hF⟩ := ck_ok hF
            refine ra_ld Z hP (ia_5_2 ck_11) hi14 dX9_countInWell_99 ?_
            obtain ⟨q15, hq15, hF⟩ := bd_ok hF
            refine xX4_follow Z hP hS ck_92 ck_79 ck_34 ck_11 hq15 wd_20_22 hl.1 (Nat.le_of_ble_eq_true rfl) ⟨Nat.le_of_ble_eq_true rfl, Nat.le_of_ble_eq_true rfl⟩ dX9_countInWell_100 (fun H locs hP hS => ?_)
            refine lv_iconst (v := (0 : Int32)) hx hb dX9_countInWell_103 ic_0 ?_
            refine lv_istore (lv' := [(5, .int (0 : Int32)), (0, .ref (g.1 0)), (1, .int v1), (2, .int v2), (3, .int a3), (4, .int a4)]) hx hb dX9_countInWell_104 hl (Nat.le_of_ble_eq_true rfl) rfl (fun ls hl => ?_)
            exact (hL106 _ hb153 FU) _ _ _ _ hF _ _ _ (lv_sub hl [1, 2, 3, 4, 5, 0] rfl) hP hS
      intro a3 M hF H locs ls hl hP hS
      have hF : F9_countInWell_p21 (F9_countInWell_h21 v1 v2 n) v1 v2 a3 M = some q := hF
      rw [hkh] at hF
      unfold F9_countInWell_p21 at hF
      refine lv_iload_n hx hb dX9_countInWell_21 rfl (lv_at hl 3 rfl) ?_
      refine lv_bipush (v := (10 : Int32)) hx hb dX9_countInWell_22 bp_10 ?_
      refine lv_icmp_ge (tgt := 165) hx hb dX9_countInWell_24 rfl (fun hc => ?_) (fun hc => ?_)
      · have hF := (if_pos hc).symm.trans hF
        exact ret_VWC Z hr hlk hP hS hF dX9_countInWell_165
      · have hF := (if_neg hc).symm.trans hF
        refine lv_iload_n hx hb dX9_countInWell_27 rfl (lv_at hl 2 rfl) ?_
        refine lv_iload_n hx hb dX9_countInWell_28 rfl (lv_at hl 3 rfl) ?_
        refine lv_ishr hx hb dX9_countInWell_29 ?_
        refine lv_iconst (v := (1 : Int32)) hx hb dX9_countInWell_30 ic_1 ?_
        refine lv_iand hx hb dX9_countInWell_31 ?_
        refine lv_if_ne (tgt := 38) hx hb dX9_countInWell_32 rfl (fun hc => ?_) (fun hc => ?_)
        · have hF := (if_neg hc).symm.trans hF
          refine lv_aload_n hx hb dX9_countInWell_38 rfl (lv_at hl 0 rfl) ?_
          refine gf9_10 Z hP wd_2_21 dX9_countInWell_39 ?_
          refine lv_iload_n hx hb dX9_countInWell_42 rfl (lv_at hl 1 rfl) ?_
          refine lv_iload_n hx hb dX9_countInWell_43 rfl (lv_at hl 3 rfl) ?_
          obtain ⟨q16, hq16, hF⟩ := bd_ok hF
          refine xX8_raise Z hP hS ck_79 hq16 wd_34_10 hl.1 (Nat.le_of_ble_eq_true rfl) ⟨Nat.le_of_ble_eq_true rfl, Nat.le_of_ble_eq_true rfl⟩ dX9_countInWell_44 (fun H locs hP hS => ?_)
          refine lv_iconst (v := (0 : Int32)) hx hb dX9_countInWell_47 ic_0 ?_
          refine lv_istore (lv' := [(4, .int (0 : Int32)), (0, .ref (g.1 0)), (1, .int v1), (2, .int v2), (3, .int a3)]) hx hb dX9_countInWell_48 hl (Nat.le_of_ble_eq_true rfl) rfl (fun ls hl => ?_)
          exact (hL50 _ hb159 FU) _ _ _ hF _ _ _ (lv_sub hl [1, 2, 3, 4, 0] rfl) hP hS
        · have hF := (if_pos hc).symm.trans hF
          refine lv_goto (tgt := 159) hx hb dX9_countInWell_35 rfl ?_
          exact hb159 _ _ hF _ _ _ (lv_sub hl [0, 1, 2, 3] rfl) hP hS
  refine lv_aload_n hx hb dX9_countInWell_0 rfl (lv_at hl 0 rfl) ?_
  refine gf9_14 Z hP wd_3_2 dX9_countInWell_1 ?_
  refine lv_iconst (v := (0 : Int32)) hx hb dX9_countInWell_4 ic_0 ?_
  obtain ⟨q17, hq17, hF⟩ := bd_ok hF
  refine xJ7_fill_53178 Z hP hS (isA_ln ck_97) hq17 wd_28_18 hl.1 (Nat.le_of_ble_eq_true rfl) ⟨Nat.le_of_ble_eq_true rfl, Nat.le_of_ble_eq_true rfl⟩ dX9_countInWell_5 (fun H locs hP hS => ?_)
  refine lv_aload_n hx hb dX9_countInWell_8 rfl (lv_at hl 0 rfl) ?_
  refine gf9_10 Z hP wd_2_21 dX9_countInWell_9 ?_
  refine lv_aload_n hx hb dX9_countInWell_12 rfl (lv_at hl 0 rfl) ?_
  refine gf9_1 Z hP wd_1_19 dX9_countInWell_13 ?_
  obtain ⟨q18, hq18, hF⟩ := bd_ok hF
  refine xX8_become Z hP hS ck_79 ck_6 hq18 wd_34_2 hl.1 (Nat.le_of_ble_eq_true rfl) ⟨Nat.le_of_ble_eq_true rfl, Nat.le_of_ble_eq_true rfl⟩ dX9_countInWell_16 (fun H locs hP hS => ?_)
  refine lv_iconst (v := (0 : Int32)) hx hb dX9_countInWell_19 ic_0 ?_
  refine lv_istore_n (lv' := [(3, .int (0 : Int32)), (0, .ref (g.1 0)), (1, .int v1), (2, .int v2)]) hx hb dX9_countInWell_20 rfl hl (Nat.le_of_ble_eq_true rfl) rfl (fun ls hl => ?_)
  exact (hL21 FU) _ _ hF _ _ _ (lv_sub hl [1, 2, 3, 0] rfl) hP hS
theorem xX9_countInWell {p : Program} {l : Launch} {e : Env} {R : Room} {s : State} {m : MethodId} {args : Array Value} {below : List Frame} {meth : Method} {c : Code} {H : Heap} {locs : List Loc} {Q : State → Prop} {cc : ByteArray} {nL : Nat} {own : String} {g : GG} {pc index : Nat} {ls : Array Slot} {rest : List Value} {mc mm : Mem} (Z : ZZ p s m args c cc nL own g) (hP : va_P g.2.2.1 vwCl (wL g mc mm) H) (hS : va_S (AA g s.heap.size) s.heap H locs) {v1 : Int32} {v2 : Int32} {q : Mem} (hq : F9_countInWell v1 v2 mc = some q) (hlk : Cond.methodLink own index yX9_countInWell ∈ wsL_law) (hsz : ls.size = nL) (hro : (rest.map fun v => v.category).sum ≤ 8) (hR : 2 + 1 ≤ R.frames ∧ 8 + (6 + 11) + 56 ≤ R.locals) (hdg : decode cc pc = .ok (.invokevirtual index, 3)) (kk : ∀ (H : Heap) (locs : List Loc), va_P g.2.2.1 vwCl (wL g q mm) H → va_S (AA g s.heap.size) s.heap H locs → W p l e R s m args below meth c H locs 0 0 Q (F0 m (pc + 3) ls (rest))) : W p l e R s m args below meth c H locs 0 0 Q (F0 m pc ls (.int v2 :: .int v1 :: .ref (g.1 0) :: rest)) :=
  x_VV Z hP hS (kX9_countInWell l g v1 v2 mc mm q hq) (isO_w ck_0) (ci := 9) (by decide) rfl rfl mf_X9_countInWell mv_X9_countInWell hlk rfl rfl hsz hro hR hdg kk
theorem dX9_mostAlike_0 : decode cX9_mostAlike 0 = .ok (.aload_n 0, 1) := by decide +kernel
theorem dX9_mostAlike_1 : decode cX9_mostAlike 1 = .ok (.getfield 88, 3) := by decide +kernel
theorem dX9_mostAlike_4 : decode cX9_mostAlike 4 = .ok (.iconst 0, 1) := by decide +kernel
theorem dX9_mostAlike_5 : decode cX9_mostAlike 5 = .ok (.invokestatic 393, 3) := by decide +kernel
theorem dX9_mostAlike_8 : decode cX9_mostAlike 8 = .ok (.iconst 0, 1) := by decide +kernel
theorem dX9_mostAlike_9 : decode cX9_mostAlike 9 = .ok (.istore_n 3, 1) := by decide +kernel
theorem dX9_mostAlike_10 : decode cX9_mostAlike 10 = .ok (.iconst 0, 1) := by decide +kernel
theorem dX9_mostAlike_11 : decode cX9_mostAlike 11 = .ok (.istore 4, 2) := by decide +kernel
theorem dX9_mostAlike_13 : decode cX9_mostAlike 13 = .ok (.iload 4, 2) := by decide +kernel
theorem dX9_mostAlike_15 : decode cX9_mostAlike 15 = .ok (.bipush 10, 2) := by decide +kernel
theorem dX9_mostAlike_17 : decode cX9_mostAlike 17 = .ok (.if_icmp .ge 69, 3) := by decide +kernel
theorem dX9_mostAlike_20 : decode cX9_mostAlike 20 = .ok (.aload_n 0, 1) := by decide +kernel
theorem dX9_mostAlike_21 : decode cX9_mostAlike 21 = .ok (.getfield 84, 3) := by decide +kernel
theorem dX9_mostAlike_24 : decode cX9_mostAlike 24 = .ok (.iload 4, 2) := by decide +kernel
theorem dX9_mostAlike_26 : decode cX9_mostAlike 26 = .ok (.bipush 40, 2) := by decide +kernel
theorem dX9_mostAlike_28 : decode cX9_mostAlike 28 = .ok (.imul, 1) := by decide +kernel
theorem dX9_mostAlike_29 : decode cX9_mostAlike 29 = .ok (.iload_n 2, 1) := by decide +kernel
theorem dX9_mostAlike_30 : decode cX9_mostAlike 30 = .ok (.iadd, 1) := by decide +kernel
theorem dX9_mostAlike_31 : decode cX9_mostAlike 31 = .ok (.iaload, 1) := by decide +kernel
theorem dX9_mostAlike_32 : decode cX9_mostAlike 32 = .ok (.istore 5, 2) := by decide +kernel
theorem dX9_mostAlike_34 : decode cX9_mostAlike 34 = .ok (.iload_n 1, 1) := by decide +kernel
theorem dX9_mostAlike_35 : decode cX9_mostAlike 35 = .ok (.iload 4, 2) := by decide +kernel
theorem dX9_mostAlike_37 : decode cX9_mostAlike 37 = .ok (.ishr, 1) := by decide +kernel
theorem dX9_mostAlike_38 : decode cX9_mostAlike 38 = .ok (.iconst 1, 1) := by decide +kernel
theorem dX9_mostAlike_39 : decode cX9_mostAlike 39 = .ok (.iand, 1) := by decide +kernel
theorem dX9_mostAlike_40 : decode cX9_mostAlike 40 = .ok (.iconst 1, 1) := by decide +kernel
theorem dX9_mostAlike_41 : decode cX9_mostAlike 41 = .ok (.if_icmp .ne 39, 3) := by decide +kernel
theorem dX9_mostAlike_44 : decode cX9_mostAlike 44 = .ok (.iload 5, 2) := by decide +kernel
theorem dX9_mostAlike_46 : decode cX9_mostAlike 46 = .ok (.aload_n 0, 1) := by decide +kernel
theorem dX9_mostAlike_47 : decode cX9_mostAlike 47 = .ok (.getfield 88, 3) := by decide +kernel
theorem dX9_mostAlike_50 : decode cX9_mostAlike 50 = .ok (.arraylength, 1) := by decide +kernel
theorem dX9_mostAlike_51 : decode cX9_mostAlike 51 = .ok (.invokestatic 101, 3) := by decide +kernel
theorem dX9_mostAlike_54 : decode cX9_mostAlike 54 = .ok (.ifCond .eq 26, 3) := by decide +kernel
theorem dX9_mostAlike_57 : decode cX9_mostAlike 57 = .ok (.aload_n 0, 1) := by decide +kernel
theorem dX9_mostAlike_58 : decode cX9_mostAlike 58 = .ok (.getfield 88, 3) := by decide +kernel
theorem dX9_mostAlike_61 : decode cX9_mostAlike 61 = .ok (.iload 5, 2) := by decide +kernel
theorem dX9_mostAlike_63 : decode cX9_mostAlike 63 = .ok (.dup2, 1) := by decide +kernel
theorem dX9_mostAlike_64 : decode cX9_mostAlike 64 = .ok (.iaload, 1) := by decide +kernel
theorem dX9_mostAlike_65 : decode cX9_mostAlike 65 = .ok (.iconst 1, 1) := by decide +kernel
theorem dX9_mostAlike_66 : decode cX9_mostAlike 66 = .ok (.iadd, 1) := by decide +kernel
theorem dX9_mostAlike_67 : decode cX9_mostAlike 67 = .ok (.iastore, 1) := by decide +kernel
theorem dX9_mostAlike_68 : decode cX9_mostAlike 68 = .ok (.iload_n 3, 1) := by decide +kernel
theorem dX9_mostAlike_69 : decode cX9_mostAlike 69 = .ok (.aload_n 0, 1) := by decide +kernel
theorem dX9_mostAlike_70 : decode cX9_mostAlike 70 = .ok (.getfield 88, 3) := by decide +kernel
theorem dX9_mostAlike_73 : decode cX9_mostAlike 73 = .ok (.iload 5, 2) := by decide +kernel
theorem dX9_mostAlike_75 : decode cX9_mostAlike 75 = .ok (.iaload, 1) := by decide +kernel
theorem dX9_mostAlike_76 : decode cX9_mostAlike 76 = .ok (.invokestatic 420, 3) := by decide +kernel
theorem dX9_mostAlike_79 : decode cX9_mostAlike 79 = .ok (.istore_n 3, 1) := by decide +kernel
theorem dX9_mostAlike_80 : decode cX9_mostAlike 80 = .ok (.iinc 4 1, 3) := by decide +kernel
theorem dX9_mostAlike_83 : decode cX9_mostAlike 83 = .ok (.goto (-70), 3) := by decide +kernel
theorem dX9_mostAlike_86 : decode cX9_mostAlike 86 = .ok (.iload_n 3, 1) := by decide +kernel
theorem dX9_mostAlike_87 : decode cX9_mostAlike 87 = .ok (.ireturn, 1) := by decide +kernel
noncomputable def F9_mostAlike_b80 (kh : Int32 → Int32 → Mem → Option (Int32 × Mem)) (v1 : Int32) (v2 : Int32) (a3 : Int32) (a4 : Int32) (M : Mem) : Option (Int32 × Mem) :=
  kh a3 (a4 + (1 : Int32)) M
noncomputable def F9_mostAlike_p13 (kh : Int32 → Int32 → Mem → Option (Int32 × Mem)) (v1 : Int32) (v2 : Int32) (a3 : Int32) (a4 : Int32) (M : Mem) : Option (Int32 × Mem) :=
  (if (10 : Int32) ≤ a4 then some (a3, M) else (ck ((a4 * (40 : Int32)) + v2) 400 (if ((v1 >>> (a4 &&& (31 : Int32))) &&& (1 : Int32)) = (1 : Int32) then ((F9_in (M 97 ((a4 * (40 : Int32)) + v2).toNatClampNeg) (Int32.ofNat 9)).bind (fun q9 => (if q9 = (0 : Int32) then (F9_mostAlike_b80 kh v1 v2) a3 a4 M else (ck (M 97 ((a4 * (40 : Int32)) + v2).toNatClampNeg) 9 (ck (M 97 ((a4 * (40 : Int32)) + v2).toNatClampNeg) 9 (lt (mset M 98 (M 97 ((a4 * (40 : Int32)) + v2).toNatClampNeg).toNatClampNeg ((M 98 (M 97 ((a4 * (40 : Int32)) + v2).toNatClampNeg).toNatClampNeg) + (1 : Int32))) (fun M12 => (ck (M 97 ((a4 * (40 : Int32)) + v2).toNatClampNeg) 9 ((F9_mostAlike_b80 kh v1 v2) (if a3 < (M12 98 (M 97 ((a4 * (40 : Int32)) + v2).toNatClampNeg).toNatClampNeg) then (M12 98 (M 97 ((a4 * (40 : Int32)) + v2).toNatClampNeg).toNatClampNeg) else a3) a4 M12))))))))) else (F9_mostAlike_b80 kh v1 v2) a3 a4 M)))
noncomputable def F9_mostAlike_h13 (v1 : Int32) (v2 : Int32) : Nat → Int32 → Int32 → Mem → Option (Int32 × Mem)
  | 0, _, _, _ => none
  | n + 1, a3, a4, M => F9_mostAlike_p13 (F9_mostAlike_h13 v1 v2 n) v1 v2 a3 a4 M
noncomputable def F9_mostAlike (v1 : Int32) (v2 : Int32) (mc : Mem) : Option (Int32 × Mem) :=
  ((F7_fill_53178 98 (0 : Int32) mc).bind (fun q14 => ((F9_mostAlike_h13 v1 v2 FU) (0 : Int32) (0 : Int32) q14)))
set_option maxHeartbeats 4000000 in
set_option maxRecDepth 100000 in
theorem kX9_mostAlike (l : Launch) (g : GG) (v1 : Int32) (v2 : Int32) (mc mm : Mem) (q : Int32 × Mem) (hF : F9_mostAlike v1 v2 mc = some q) : KI l yX9_mostAlike cX9_mostAlike 6 .int 1 40 g [.ref (g.1 0), .int v1, .int v2] mc mm q.1 (q.2, mm) := by
  intro sz
  refine x_start (Qc := fun z => QI g z q.1 (q.2, mm)) (by decide +kernel) (Nat.le_of_ble_eq_true rfl) ?_ sz
  intro p e s m args below meth c ls Z hr hlk hP hl
  have hx := Z.1.1
  have hb := Z.1.2.1
  have hown := Z.1.2.2.2.1
  have hts := Z.1.2.2.2.2
  have hS : va_S (AA g s.heap.size) s.heap s.heap [] := va_S.rf
  have hl : lv_has ls 6 [(0, .ref (g.1 0)), (1, .int v1), (2, .int v2)] := hl
  unfold F9_mostAlike at hF
  have hL13 : ∀ n : Nat, ∀ (a3 : Int32) (a4 : Int32) (M : Mem), F9_mostAlike_h13 v1 v2 n a3 a4 M = some q → ∀ (H : Heap) (locs : List Loc) (ls : Array Slot), lv_has ls 6 [(0, .ref (g.1 0)), (1, .int v1), (2, .int v2), (3, .int a3), (4, .int a4)] → va_P g.2.2.1 vwCl (wL g M mm) H → va_S (AA g s.heap.size) s.heap H locs → W p l e { frames := 1, cells := 0, slots := 0, locals := 40 } s m args below meth c H locs 0 0 (MQ below (QI g s.heap.size q.1 (q.2, mm)) args s 0 0 (AA g s.heap.size)) (F0 m 13 ls []) := by
    intro n
    induction n with
    | zero => intro a3 a4 M hF H locs ls hl hP hS; exact absurd hF (fun z => nomatch (show (none : Option _) = some q from z))
    | succ n ih =>
      generalize hkh : F9_mostAlike_h13 v1 v2 n = kh at ih
      have hb80 : ∀ (a3 : Int32) (a4 : Int32) (M : Mem), F9_mostAlike_b80 kh v1 v2 a3 a4 M = some q → ∀ (H : Heap) (locs : List Loc) (ls : Array Slot), lv_has ls 6 [(0, .ref (g.1 0)), (1, .int v1), (2, .int v2), (3, .int a3), (4, .int a4)] → va_P g.2.2.1 vwCl (wL g M mm) H → va_S (AA g s.heap.size) s.heap H locs → W p l e { frames := 1, cells := 0, slots := 0, locals := 40 } s m args below meth c H locs 0 0 (MQ below (QI g s.heap.size q.1 (q.2, mm)) args s 0 0 (AA g s.heap.size)) (F0 m 80 ls []) := by
        intro a3 a4 M hF H locs ls hl hP hS
        unfold F9_mostAlike_b80 at hF
        refine lv_iinc (lv' := [(4, .int (a4 + (1 : Int32))), (0, .ref (g.1 0)), (1, .int v1), (2, .int v2), (3, .int a3)]) (v := (a4 + (1 : Int32))) hx hb dX9_mostAlike_80 hl (k := 4) rfl (io_1 _) (Nat.le_of_ble_eq_true rfl) rfl (fun ls hl => ?_)
        refine lv_goto (tgt := 13) hx hb dX9_mostAlike_83 rfl ?_
        exact ih _ _ _ hF _ _ _ (lv_sub hl [1, 2, 3, 4, 0] rfl) hP hS
      intro a3 a4 M hF H locs ls hl hP hS
      have hF : F9_mostAlike_p13 (F9_mostAlike_h13 v1 v2 n) v1 v2 a3 a4 M = some q := hF
      rw [hkh] at hF
      unfold F9_mostAlike_p13 at hF
      refine lv_iload hx hb dX9_mostAlike_13 (lv_at hl 4 rfl) ?_
      refine lv_bipush (v := (10 : Int32)) hx hb dX9_mostAlike_15 bp_10 ?_
      refine lv_icmp_ge (tgt := 86) hx hb dX9_mostAlike_17 rfl (fun hc => ?_) (fun hc => ?_)
      · have hF := (if_pos hc).symm.trans hF
        refine lv_iload_n hx hb dX9_mostAlike_86 rfl (lv_at hl 3 rfl) ?_
        exact ret_IWC Z hr hlk hP hS hF dX9_mostAlike_87
      · have hF := (if_neg hc).symm.trans hF
        refine lv_aload_n hx hb dX9_mostAlike_20 rfl (lv_at hl 0 rfl) ?_
        refine gf9_14 Z hP wd_3_2 dX9_mostAlike_21 ?_
        refine lv_iload hx hb dX9_mostAlike_24 (lv_at hl 4 rfl) ?_
        refine lv_bipush (v := (40 : Int32)) hx hb dX9_mostAlike_26 bp_40 ?_
        refine lv_imul hx hb dX9_mostAlike_28 ?_
        refine lv_iload_n hx hb dX9_mostAlike_29 rfl (lv_at hl 2 rfl) ?_
        refine lv_iadd hx hb dX9_mostAlike_30 ?_
        obtain ⟨hi8, hF⟩ := ck_ok hF
        refine ra_ld Z hP ck_97 hi8 dX9_mostAlike_31 ?_
        refine lv_istore (lv' := [(5, .int (M 97 ((a4 * (40 : Int32)) + v2).toNatClampNeg)), (0, .ref (g.1 0)), (1, .int v1), (2, .int v2), (3, .int a3), (4, .int a4)]) hx hb dX9_mostAlike_32 hl (Nat.le_of_ble_eq_true rfl) rfl (fun ls hl => ?_)
        refine lv_iload_n hx hb dX9_mostAlike_34 rfl (lv_at hl 2 rfl) ?_
        refine lv_iload hx hb dX9_mostAlike_35 (lv_at hl 5 rfl) ?_
        refine lv_ishr hx hb dX9_mostAlike_37 ?_
        refine lv_iconst (v := (1 : Int32)) hx hb dX9_mostAlike_38 ic_1 ?_
        refine lv_iand hx hb dX9_mostAlike_39 ?_
        refine lv_iconst (v := (1 : Int32)) hx hb dX9_mostAlike_40 ic_1 ?_
        refine lv_icmp_ne (tgt := 80) hx hb dX9_mostAlike_41 rfl (fun hc => ?_) (fun hc => ?_)
        · have hF := (if_neg hc).symm.trans hF
          exact hb80 _ _ _ hF _ _ _ (lv_sub hl [1, 2, 3, 4, 5] rfl) hP hS
        · have hF := (if_pos hc).symm.trans hF
          refine lv_iload hx hb dX9_mostAlike_44 (lv_at hl 0 rfl) ?_
          refine lv_aload_n hx hb dX9_mostAlike_46 rfl (lv_at hl 1 rfl) ?_
          refine gf9_15 Z hP wd_3_3 dX9_mostAlike_47 ?_
          refine ra_len Z hP ck_98 dX9_mostAlike_50 ?_
          obtain ⟨q9, hq9, hF⟩ := bd_ok hF
          refine xX9_in Z hP hS hq9 wd_7_7 hl.1 (Nat.le_of_ble_eq_true rfl) ⟨Nat.le_of_ble_eq_true rfl, Nat.le_of_ble_eq_true rfl⟩ dX9_mostAlike_51 (fun H locs hP hS => ?_)
          refine lv_if_eq (tgt := 80) hx hb dX9_mostAlike_54 rfl (fun hc => ?_) (fun hc => ?_)
          · have hF := (if_pos hc).symm.trans hF
            exact hb80 _ _ _ hF _ _ _ (lv_sub hl [1, 2, 3, 4, 5] rfl) hP hS
          · have hF := (if_neg hc).symm.trans hF
            refine lv_aload_n hx hb dX9_mostAlike_57 rfl (lv_at hl 1 rfl) ?_
            refine gf9_15 Z hP wd_3_3 dX9_mostAlike_58 ?_
            refine lv_iload hx hb dX9_mostAlike_61 (lv_at hl 0 rfl) ?_
            refine lv_dup2_11 hx hb dX9_mostAlike_63 rfl rfl ?_
            obtain ⟨hi10, hF⟩ := ck_ok hF
            refine ra_ld Z hP ck_98 hi10 dX9_mostAlike_64 ?_
            refine lv_iconst (v := (1 : Int32)) hx hb dX9_mostAlike_65 ic_1 ?_
            refine lv_iadd hx hb dX9_mostAlike_66 ?_
            obtain ⟨hi11, hF⟩ := ck_ok hF
            refine ra_st Z hP hS ck_98 hi11 dX9_mostAlike_67 (fun H locs hP hS => ?_)
            refine lv_iload_n hx hb dX9_mostAlike_68 rfl (lv_at hl 4 rfl) ?_
            refine lv_aload_n hx hb dX9_mostAlike_69 rfl (lv_at hl 1 rfl) ?_
            refine gf9_15 Z hP wd_3_3 dX9_mostAlike_70 ?_
            refine lv_iload hx hb dX9_mostAlike_73 (lv_at hl 0 rfl) ?_
            obtain ⟨M12, eM12, hF⟩ := lt_ok hF
            have hP : va_P g.2.2.1 vwCl (wL g M12 mm) H := by rw [eM12]; exact hP
            obtain ⟨hi13, hF⟩ := ck_ok hF
            refine ra_ld Z hP ck_98 hi13 dX9_mostAlike_75 ?_
            refine va_mmax hx hb (Z.1.2.2.1.trans hl.1.symm) hown (hts _ wd_36_6) (hts _ wd_3_15) (hts _ wd_3_16) (hts _ wd_3_17) (Nat.le_of_ble_eq_true rfl) (Nat.le_of_ble_eq_true rfl) (Nat.zero_le _) (Nat.zero_le _) dX9_mostAlike_76 ?_
            refine lv_istore_n (lv' := [(3, .int (if a3 < (M12 98 (M 97 ((a4 * (40 : Int32)) + v2).toNatClampNeg).toNatClampNeg) then (M12 98 (M 97 ((a4 * (40 : Int32)) + v2).toNatClampNeg).toNatClampNeg) else a3)), (5, .int (M 97 ((a4 * (40 : Int32)) + v2).toNatClampNeg)), (0, .ref (g.1 0)), (1, .int v1), (2, .int v2), (4, .int a4)]) hx hb dX9_mostAlike_79 rfl hl (Nat.le_of_ble_eq_true rfl) rfl (fun ls hl => ?_)
            exact hb80 _ _ _ hF _ _ _ (lv_sub hl [2, 3, 4, 0, 5] rfl) hP hS
  refine lv_aload_n hx hb dX9_mostAlike_0 rfl (lv_at hl 0 rfl) ?_
  refine gf9_15 Z hP wd_3_3 dX9_mostAlike_1 ?_
  refine lv_iconst (v := (0 : Int32)) hx hb dX9_mostAlike_4 ic_0 ?_
  obtain ⟨q14, hq14, hF⟩ := bd_ok hF
  refine xJ7_fill_53178 Z hP hS (isA_ln ck_98) hq14 wd_28_18 hl.1 (Nat.le_of_ble_eq_true rfl) ⟨Nat.le_of_ble_eq_true rfl, Nat.le_of_ble_eq_true rfl⟩ dX9_mostAlike_5 (fun H locs hP hS => ?_)
  refine lv_iconst (v := (0 : Int32)) hx hb dX9_mostAlike_8 ic_0 ?_
  refine lv_istore_n (lv' := [(3, .int (0 : Int32)), (0, .ref (g.1 0)), (1, .int v1), (2, .int v2)]) hx hb dX9_mostAlike_9 rfl hl (Nat.le_of_ble_eq_true rfl) rfl (fun ls hl => ?_)
  refine lv_iconst (v := (0 : Int32)) hx hb dX9_mostAlike_10 ic_0 ?_
  refine lv_istore (lv' := [(4, .int (0 : Int32)), (3, .int (0 : Int32)), (0, .ref (g.1 0)), (1, .int v1), (2, .int v2)]) hx hb dX9_mostAlike_11 hl (Nat.le_of_ble_eq_true rfl) rfl (fun ls hl => ?_)
  exact (hL13 FU) _ _ _ hF _ _ _ (lv_sub hl [2, 3, 4, 1, 0] rfl) hP hS
theorem xX9_mostAlike {p : Program} {l : Launch} {e : Env} {R : Room} {s : State} {m : MethodId} {args : Array Value} {below : List Frame} {meth : Method} {c : Code} {H : Heap} {locs : List Loc} {Q : State → Prop} {cc : ByteArray} {nL : Nat} {own : String} {g : GG} {pc index : Nat} {ls : Array Slot} {rest : List Value} {mc mm : Mem} (Z : ZZ p s m args c cc nL own g) (hP : va_P g.2.2.1 vwCl (wL g mc mm) H) (hS : va_S (AA g s.heap.size) s.heap H locs) {v1 : Int32} {v2 : Int32} {q : Int32 × Mem} (hq : F9_mostAlike v1 v2 mc = some q) (hlk : Cond.methodLink own index yX9_mostAlike ∈ wsL_law) (hsz : ls.size = nL) (hro : (rest.map fun v => v.category).sum ≤ 8) (hR : 1 + 1 ≤ R.frames ∧ 8 + (6 + 11) + 40 ≤ R.locals) (hdg : decode cc pc = .ok (.invokevirtual index, 3)) (kk : ∀ (H : Heap) (locs : List Loc), va_P g.2.2.1 vwCl (wL g q.2 mm) H → va_S (AA g s.heap.size) s.heap H locs → W p l e R s m args below meth c H locs 0 0 Q (F0 m (pc + 3) ls (.int q.1 :: rest))) : W p l e R s m args below meth c H locs 0 0 Q (F0 m pc ls (.int v2 :: .int v1 :: .ref (g.1 0) :: rest)) :=
  x_VI Z hP hS (kX9_mostAlike l g v1 v2 mc mm q hq) (isO_w ck_0) (ci := 9) (by decide) rfl rfl mf_X9_mostAlike mv_X9_mostAlike hlk rfl rfl hsz hro hR hdg kk

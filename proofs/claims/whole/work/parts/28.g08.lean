theorem dX9_soon_0 : decode cX9_soon 0 = .ok (.iload_n 1, 1) := by decide +kernel
theorem dX9_soon_1 : decode cX9_soon 1 = .ok (.aload_n 0, 1) := by decide +kernel
theorem dX9_soon_2 : decode cX9_soon 2 = .ok (.getfield 21, 3) := by decide +kernel
theorem dX9_soon_5 : decode cX9_soon 5 = .ok (.getfield 119, 3) := by decide +kernel
theorem dX9_soon_8 : decode cX9_soon 8 = .ok (.invokestatic 101, 3) := by decide +kernel
theorem dX9_soon_11 : decode cX9_soon 11 = .ok (.ifCond .ne 6, 3) := by decide +kernel
theorem dX9_soon_14 : decode cX9_soon 14 = .ok (.bipush (-2), 2) := by decide +kernel
theorem dX9_soon_16 : decode cX9_soon 16 = .ok (.ireturn, 1) := by decide +kernel
theorem dX9_soon_17 : decode cX9_soon 17 = .ok (.aload_n 0, 1) := by decide +kernel
theorem dX9_soon_18 : decode cX9_soon 18 = .ok (.invokevirtual 173, 3) := by decide +kernel
theorem dX9_soon_21 : decode cX9_soon 21 = .ok (.iconst (-1), 1) := by decide +kernel
theorem dX9_soon_22 : decode cX9_soon 22 = .ok (.istore_n 2, 1) := by decide +kernel
theorem dX9_soon_23 : decode cX9_soon 23 = .ok (.iconst 0, 1) := by decide +kernel
theorem dX9_soon_24 : decode cX9_soon 24 = .ok (.istore_n 3, 1) := by decide +kernel
theorem dX9_soon_25 : decode cX9_soon 25 = .ok (.iload_n 3, 1) := by decide +kernel
theorem dX9_soon_26 : decode cX9_soon 26 = .ok (.aload_n 0, 1) := by decide +kernel
theorem dX9_soon_27 : decode cX9_soon 27 = .ok (.getfield 28, 3) := by decide +kernel
theorem dX9_soon_30 : decode cX9_soon 30 = .ok (.getfield 134, 3) := by decide +kernel
theorem dX9_soon_33 : decode cX9_soon 33 = .ok (.if_icmp .ge 41, 3) := by decide +kernel
theorem dX9_soon_36 : decode cX9_soon 36 = .ok (.aload_n 0, 1) := by decide +kernel
theorem dX9_soon_37 : decode cX9_soon 37 = .ok (.getfield 63, 3) := by decide +kernel
theorem dX9_soon_40 : decode cX9_soon 40 = .ok (.iload_n 3, 1) := by decide +kernel
theorem dX9_soon_41 : decode cX9_soon 41 = .ok (.aaload, 1) := by decide +kernel
theorem dX9_soon_42 : decode cX9_soon 42 = .ok (.iload_n 1, 1) := by decide +kernel
theorem dX9_soon_43 : decode cX9_soon 43 = .ok (.invokevirtual 189, 3) := by decide +kernel
theorem dX9_soon_46 : decode cX9_soon 46 = .ok (.istore 4, 2) := by decide +kernel
theorem dX9_soon_48 : decode cX9_soon 48 = .ok (.iload 4, 2) := by decide +kernel
theorem dX9_soon_50 : decode cX9_soon 50 = .ok (.iconst (-1), 1) := by decide +kernel
theorem dX9_soon_51 : decode cX9_soon 51 = .ok (.if_icmp .eq 17, 3) := by decide +kernel
theorem dX9_soon_54 : decode cX9_soon 54 = .ok (.iload_n 2, 1) := by decide +kernel
theorem dX9_soon_55 : decode cX9_soon 55 = .ok (.iconst (-1), 1) := by decide +kernel
theorem dX9_soon_56 : decode cX9_soon 56 = .ok (.if_icmp .eq 9, 3) := by decide +kernel
theorem dX9_soon_59 : decode cX9_soon 59 = .ok (.iload 4, 2) := by decide +kernel
theorem dX9_soon_61 : decode cX9_soon 61 = .ok (.iload_n 2, 1) := by decide +kernel
theorem dX9_soon_62 : decode cX9_soon 62 = .ok (.if_icmp .ge 6, 3) := by decide +kernel
theorem dX9_soon_65 : decode cX9_soon 65 = .ok (.iload 4, 2) := by decide +kernel
theorem dX9_soon_67 : decode cX9_soon 67 = .ok (.istore_n 2, 1) := by decide +kernel
theorem dX9_soon_68 : decode cX9_soon 68 = .ok (.iinc 3 1, 3) := by decide +kernel
theorem dX9_soon_71 : decode cX9_soon 71 = .ok (.goto (-46), 3) := by decide +kernel
theorem dX9_soon_74 : decode cX9_soon 74 = .ok (.iload_n 2, 1) := by decide +kernel
theorem dX9_soon_75 : decode cX9_soon 75 = .ok (.ireturn, 1) := by decide +kernel
noncomputable def F9_soon_b68 (kh : Int32 → Int32 → Mem → Option (Int32 × Mem)) (v1 : Int32) (a2 : Int32) (a3 : Int32) (M : Mem) : Option (Int32 × Mem) :=
  kh a2 (a3 + (1 : Int32)) M
noncomputable def F9_soon_b65 (kh : Int32 → Int32 → Mem → Option (Int32 × Mem)) (v1 : Int32) (a3 : Int32) (a4 : Int32) (M : Mem) : Option (Int32 × Mem) :=
  (F9_soon_b68 kh v1) a4 a3 M
noncomputable def F9_soon_p25 (kh : Int32 → Int32 → Mem → Option (Int32 × Mem)) (v1 : Int32) (a2 : Int32) (a3 : Int32) (M : Mem) : Option (Int32 × Mem) :=
  (if (M 11 5) ≤ a3 then some (a2, M) else (ck a3 8 ((F4_firstHeard (39 + 5 * a3.toNatClampNeg) v1 M).bind (fun q6 => (if q6 = (-1 : Int32) then (F9_soon_b68 kh v1) a2 a3 M else (if a2 = (-1 : Int32) then (F9_soon_b65 kh v1) a3 q6 M else (if a2 ≤ q6 then (F9_soon_b68 kh v1) a2 a3 M else (F9_soon_b65 kh v1) a3 q6 M)))))))
noncomputable def F9_soon_h25 (v1 : Int32) : Nat → Int32 → Int32 → Mem → Option (Int32 × Mem)
  | 0, _, _, _ => none
  | n + 1, a2, a3, M => F9_soon_p25 (F9_soon_h25 v1 n) v1 a2 a3 M
noncomputable def F9_soon (v1 : Int32) (mc : Mem) : Option (Int32 × Mem) :=
  ((F9_in v1 (mc 6 4)).bind (fun q7 => (if q7 = (0 : Int32) then some ((-2 : Int32), mc) else ((F9_refresh mc).bind (fun q8 => ((F9_soon_h25 v1 FU) (-1 : Int32) (0 : Int32) q8))))))
set_option maxHeartbeats 4000000 in
set_option maxRecDepth 100000 in
theorem kX9_soon (l : Launch) (g : GG) (v1 : Int32) (mc mm : Mem) (q : Int32 × Mem) (hF : F9_soon v1 mc = some q) : KI l yX9_soon cX9_soon 5 .int 3 77 g [.ref (g.1 0), .int v1] mc mm q.1 (q.2, mm) := by
  intro sz
  refine x_start (Qc := fun z => QI g z q.1 (q.2, mm)) (by decide +kernel) (Nat.le_of_ble_eq_true rfl) ?_ sz
  intro p e s m args below meth c ls Z hr hlk hP hl
  have hx := Z.1.1
  have hb := Z.1.2.1
  have hown := Z.1.2.2.2.1
  have hts := Z.1.2.2.2.2
  have hS : va_S (AA g s.heap.size) s.heap s.heap [] := va_S.rf
  have hl : lv_has ls 5 [(0, .ref (g.1 0)), (1, .int v1)] := hl
  unfold F9_soon at hF
  have hL25 : ∀ n : Nat, ∀ (a2 : Int32) (a3 : Int32) (M : Mem), F9_soon_h25 v1 n a2 a3 M = some q → ∀ (H : Heap) (locs : List Loc) (ls : Array Slot), lv_has ls 5 [(0, .ref (g.1 0)), (1, .int v1), (2, .int a2), (3, .int a3)] → va_P g.2.2.1 vwCl (wL g M mm) H → va_S (AA g s.heap.size) s.heap H locs → W p l e { frames := 3, cells := 0, slots := 0, locals := 77 } s m args below meth c H locs 0 0 (MQ below (QI g s.heap.size q.1 (q.2, mm)) args s 0 0 (AA g s.heap.size)) (F0 m 25 ls []) := by
    intro n
    induction n with
    | zero => intro a2 a3 M hF H locs ls hl hP hS; exact absurd hF (fun z => nomatch (show (none : Option _) = some q from z))
    | succ n ih =>
      generalize hkh : F9_soon_h25 v1 n = kh at ih
      have hb68 : ∀ (a2 : Int32) (a3 : Int32) (M : Mem), F9_soon_b68 kh v1 a2 a3 M = some q → ∀ (H : Heap) (locs : List Loc) (ls : Array Slot), lv_has ls 5 [(0, .ref (g.1 0)), (1, .int v1), (2, .int a2), (3, .int a3)] → va_P g.2.2.1 vwCl (wL g M mm) H → va_S (AA g s.heap.size) s.heap H locs → W p l e { frames := 3, cells := 0, slots := 0, locals := 77 } s m args below meth c H locs 0 0 (MQ below (QI g s.heap.size q.1 (q.2, mm)) args s 0 0 (AA g s.heap.size)) (F0 m 68 ls []) := by
        intro a2 a3 M hF H locs ls hl hP hS
        unfold F9_soon_b68 at hF
        refine lv_iinc (lv' := [(3, .int (a3 + (1 : Int32))), (0, .ref (g.1 0)), (1, .int v1), (2, .int a2)]) (v := (a3 + (1 : Int32))) hx hb dX9_soon_68 hl (k := 3) rfl (io_1 _) (Nat.le_of_ble_eq_true rfl) rfl (fun ls hl => ?_)
        refine lv_goto (tgt := 25) hx hb dX9_soon_71 rfl ?_
        exact ih _ _ _ hF _ _ _ (lv_sub hl [1, 2, 3, 0] rfl) hP hS
      have hb65 : ∀ (a3 : Int32) (a4 : Int32) (M : Mem), F9_soon_b65 kh v1 a3 a4 M = some q → ∀ (H : Heap) (locs : List Loc) (ls : Array Slot), lv_has ls 5 [(0, .ref (g.1 0)), (1, .int v1), (3, .int a3), (4, .int a4)] → va_P g.2.2.1 vwCl (wL g M mm) H → va_S (AA g s.heap.size) s.heap H locs → W p l e { frames := 3, cells := 0, slots := 0, locals := 77 } s m args below meth c H locs 0 0 (MQ below (QI g s.heap.size q.1 (q.2, mm)) args s 0 0 (AA g s.heap.size)) (F0 m 65 ls []) := by
        intro a3 a4 M hF H locs ls hl hP hS
        unfold F9_soon_b65 at hF
        refine lv_iload hx hb dX9_soon_65 (lv_at hl 3 rfl) ?_
        refine lv_istore_n (lv' := [(2, .int a4), (0, .ref (g.1 0)), (1, .int v1), (3, .int a3), (4, .int a4)]) hx hb dX9_soon_67 rfl hl (Nat.le_of_ble_eq_true rfl) rfl (fun ls hl => ?_)
        exact hb68 _ _ _ hF _ _ _ (lv_sub hl [1, 2, 0, 3] rfl) hP hS
      intro a2 a3 M hF H locs ls hl hP hS
      have hF : F9_soon_p25 (F9_soon_h25 v1 n) v1 a2 a3 M = some q := hF
      rw [hkh] at hF
      unfold F9_soon_p25 at hF
      refine lv_iload_n hx hb dX9_soon_25 rfl (lv_at hl 3 rfl) ?_
      refine lv_aload_n hx hb dX9_soon_26 rfl (lv_at hl 0 rfl) ?_
      refine gf9_2 Z hP wd_1_23 dX9_soon_27 ?_
      refine gf5_5N Z hP ck_11 nf_7 dX9_soon_30 ?_
      refine lv_icmp_ge (tgt := 74) hx hb dX9_soon_33 rfl (fun hc => ?_) (fun hc => ?_)
      · have hF := (if_pos hc).symm.trans hF
        refine lv_iload_n hx hb dX9_soon_74 rfl (lv_at hl 2 rfl) ?_
        exact ret_IWC Z hr hlk hP hS hF dX9_soon_75
      · have hF := (if_neg hc).symm.trans hF
        refine lv_aload_n hx hb dX9_soon_36 rfl (lv_at hl 0 rfl) ?_
        refine gf9_8 Z hP wd_2_19 dX9_soon_37 ?_
        refine lv_iload_n hx hb dX9_soon_40 rfl (lv_at hl 3 rfl) ?_
        obtain ⟨hi5, hF⟩ := ck_ok hF
        refine rq_24 Z hP hi5 dX9_soon_41 ?_
        refine lv_iload_n hx hb dX9_soon_42 rfl (lv_at hl 1 rfl) ?_
        obtain ⟨q6, hq6, hF⟩ := bd_ok hF
        refine xX4_firstHeard Z hP hS (ir_24 hi5) hq6 wd_25_18 hl.1 (Nat.le_of_ble_eq_true rfl) ⟨Nat.le_of_ble_eq_true rfl, Nat.le_of_ble_eq_true rfl⟩ dX9_soon_43 (fun H locs hP hS => ?_)
        refine lv_istore (lv' := [(4, .int q6), (0, .ref (g.1 0)), (1, .int v1), (2, .int a2), (3, .int a3)]) hx hb dX9_soon_46 hl (Nat.le_of_ble_eq_true rfl) rfl (fun ls hl => ?_)
        refine lv_iload hx hb dX9_soon_48 (lv_at hl 0 rfl) ?_
        refine lv_iconst (v := (-1 : Int32)) hx hb dX9_soon_50 ic_m1 ?_
        refine lv_icmp_eq (tgt := 68) hx hb dX9_soon_51 rfl (fun hc => ?_) (fun hc => ?_)
        · have hF := (if_pos hc).symm.trans hF
          exact hb68 _ _ _ hF _ _ _ (lv_sub hl [1, 2, 3, 4] rfl) hP hS
        · have hF := (if_neg hc).symm.trans hF
          refine lv_iload_n hx hb dX9_soon_54 rfl (lv_at hl 3 rfl) ?_
          refine lv_iconst (v := (-1 : Int32)) hx hb dX9_soon_55 ic_m1 ?_
          refine lv_icmp_eq (tgt := 65) hx hb dX9_soon_56 rfl (fun hc => ?_) (fun hc => ?_)
          · have hF := (if_pos hc).symm.trans hF
            exact hb65 _ _ _ hF _ _ _ (lv_sub hl [1, 2, 4, 0] rfl) hP hS
          · have hF := (if_neg hc).symm.trans hF
            refine lv_iload hx hb dX9_soon_59 (lv_at hl 0 rfl) ?_
            refine lv_iload_n hx hb dX9_soon_61 rfl (lv_at hl 3 rfl) ?_
            refine lv_icmp_ge (tgt := 68) hx hb dX9_soon_62 rfl (fun hc => ?_) (fun hc => ?_)
            · have hF := (if_pos hc).symm.trans hF
              exact hb68 _ _ _ hF _ _ _ (lv_sub hl [1, 2, 3, 4] rfl) hP hS
            · have hF := (if_neg hc).symm.trans hF
              exact hb65 _ _ _ hF _ _ _ (lv_sub hl [1, 2, 4, 0] rfl) hP hS
  refine lv_iload_n hx hb dX9_soon_0 rfl (lv_at hl 1 rfl) ?_
  refine lv_aload_n hx hb dX9_soon_1 rfl (lv_at hl 0 rfl) ?_
  refine gf9_1 Z hP wd_1_19 dX9_soon_2 ?_
  refine gf8_4N Z hP ck_6 nf_2 dX9_soon_5 ?_
  obtain ⟨q7, hq7, hF⟩ := bd_ok hF
  refine xX9_in Z hP hS hq7 wd_7_7 hl.1 (Nat.le_of_ble_eq_true rfl) ⟨Nat.le_of_ble_eq_true rfl, Nat.le_of_ble_eq_true rfl⟩ dX9_soon_8 (fun H locs hP hS => ?_)
  refine lv_if_ne (tgt := 17) hx hb dX9_soon_11 rfl (fun hc => ?_) (fun hc => ?_)
  · have hF := (if_neg hc).symm.trans hF
    refine lv_aload_n hx hb dX9_soon_17 rfl (lv_at hl 0 rfl) ?_
    obtain ⟨q8, hq8, hF⟩ := bd_ok hF
    refine xX9_refresh Z hP hS hq8 wd_20_10 hl.1 (Nat.le_of_ble_eq_true rfl) ⟨Nat.le_of_ble_eq_true rfl, Nat.le_of_ble_eq_true rfl⟩ dX9_soon_18 (fun H locs hP hS => ?_)
    refine lv_iconst (v := (-1 : Int32)) hx hb dX9_soon_21 ic_m1 ?_
    refine lv_istore_n (lv' := [(2, .int (-1 : Int32)), (0, .ref (g.1 0)), (1, .int v1)]) hx hb dX9_soon_22 rfl hl (Nat.le_of_ble_eq_true rfl) rfl (fun ls hl => ?_)
    refine lv_iconst (v := (0 : Int32)) hx hb dX9_soon_23 ic_0 ?_
    refine lv_istore_n (lv' := [(3, .int (0 : Int32)), (2, .int (-1 : Int32)), (0, .ref (g.1 0)), (1, .int v1)]) hx hb dX9_soon_24 rfl hl (Nat.le_of_ble_eq_true rfl) rfl (fun ls hl => ?_)
    exact (hL25 FU) _ _ _ hF _ _ _ (lv_sub hl [2, 3, 1, 0] rfl) hP hS
  · have hF := (if_pos hc).symm.trans hF
    refine lv_bipush (v := (-2 : Int32)) hx hb dX9_soon_14 bp_m2 ?_
    exact ret_IWC Z hr hlk hP hS hF dX9_soon_16
theorem xX9_soon {p : Program} {l : Launch} {e : Env} {R : Room} {s : State} {m : MethodId} {args : Array Value} {below : List Frame} {meth : Method} {c : Code} {H : Heap} {locs : List Loc} {Q : State → Prop} {cc : ByteArray} {nL : Nat} {own : String} {g : GG} {pc index : Nat} {ls : Array Slot} {rest : List Value} {mc mm : Mem} (Z : ZZ p s m args c cc nL own g) (hP : va_P g.2.2.1 vwCl (wL g mc mm) H) (hS : va_S (AA g s.heap.size) s.heap H locs) {v1 : Int32} {q : Int32 × Mem} (hq : F9_soon v1 mc = some q) (hlk : Cond.methodLink own index yX9_soon ∈ wsL_law) (hsz : ls.size = nL) (hro : (rest.map fun v => v.category).sum ≤ 8) (hR : 3 + 1 ≤ R.frames ∧ 8 + (5 + 11) + 77 ≤ R.locals) (hdg : decode cc pc = .ok (.invokevirtual index, 3)) (kk : ∀ (H : Heap) (locs : List Loc), va_P g.2.2.1 vwCl (wL g q.2 mm) H → va_S (AA g s.heap.size) s.heap H locs → W p l e R s m args below meth c H locs 0 0 Q (F0 m (pc + 3) ls (.int q.1 :: rest))) : W p l e R s m args below meth c H locs 0 0 Q (F0 m pc ls (.int v1 :: .ref (g.1 0) :: rest)) :=
  x_VI Z hP hS (kX9_soon l g v1 mc mm q hq) (isO_w ck_0) (ci := 9) (by decide) rfl rfl mf_X9_soon mv_X9_soon hlk rfl rfl hsz hro hR hdg kk
theorem dX9_gone_0 : decode cX9_gone 0 = .ok (.aload_n 0, 1) := by decide +kernel
theorem dX9_gone_1 : decode cX9_gone 1 = .ok (.invokevirtual 173, 3) := by decide +kernel
theorem dX9_gone_4 : decode cX9_gone 4 = .ok (.iconst 0, 1) := by decide +kernel
theorem dX9_gone_5 : decode cX9_gone 5 = .ok (.istore_n 1, 1) := by decide +kernel
theorem dX9_gone_6 : decode cX9_gone 6 = .ok (.iconst 0, 1) := by decide +kernel
theorem dX9_gone_7 : decode cX9_gone 7 = .ok (.istore_n 2, 1) := by decide +kernel
theorem dX9_gone_8 : decode cX9_gone 8 = .ok (.iload_n 2, 1) := by decide +kernel
theorem dX9_gone_9 : decode cX9_gone 9 = .ok (.aload_n 0, 1) := by decide +kernel
theorem dX9_gone_10 : decode cX9_gone 10 = .ok (.getfield 28, 3) := by decide +kernel
theorem dX9_gone_13 : decode cX9_gone 13 = .ok (.getfield 134, 3) := by decide +kernel
theorem dX9_gone_16 : decode cX9_gone 16 = .ok (.if_icmp .ge 27, 3) := by decide +kernel
theorem dX9_gone_19 : decode cX9_gone 19 = .ok (.aload_n 0, 1) := by decide +kernel
theorem dX9_gone_20 : decode cX9_gone 20 = .ok (.getfield 63, 3) := by decide +kernel
theorem dX9_gone_23 : decode cX9_gone 23 = .ok (.iload_n 2, 1) := by decide +kernel
theorem dX9_gone_24 : decode cX9_gone 24 = .ok (.aaload, 1) := by decide +kernel
theorem dX9_gone_25 : decode cX9_gone 25 = .ok (.invokevirtual 192, 3) := by decide +kernel
theorem dX9_gone_28 : decode cX9_gone 28 = .ok (.ifCond .eq 9, 3) := by decide +kernel
theorem dX9_gone_31 : decode cX9_gone 31 = .ok (.iload_n 1, 1) := by decide +kernel
theorem dX9_gone_32 : decode cX9_gone 32 = .ok (.iconst 1, 1) := by decide +kernel
theorem dX9_gone_33 : decode cX9_gone 33 = .ok (.iload_n 2, 1) := by decide +kernel
theorem dX9_gone_34 : decode cX9_gone 34 = .ok (.ishl, 1) := by decide +kernel
theorem dX9_gone_35 : decode cX9_gone 35 = .ok (.ior, 1) := by decide +kernel
theorem dX9_gone_36 : decode cX9_gone 36 = .ok (.istore_n 1, 1) := by decide +kernel
theorem dX9_gone_37 : decode cX9_gone 37 = .ok (.iinc 2 1, 3) := by decide +kernel
theorem dX9_gone_40 : decode cX9_gone 40 = .ok (.goto (-32), 3) := by decide +kernel
theorem dX9_gone_43 : decode cX9_gone 43 = .ok (.iload_n 1, 1) := by decide +kernel
theorem dX9_gone_44 : decode cX9_gone 44 = .ok (.ireturn, 1) := by decide +kernel
noncomputable def F9_gone_b37 (kh : Int32 → Int32 → Mem → Option (Int32 × Mem)) (a1 : Int32) (a2 : Int32) (M : Mem) : Option (Int32 × Mem) :=
  kh a1 (a2 + (1 : Int32)) M
noncomputable def F9_gone_p8 (kh : Int32 → Int32 → Mem → Option (Int32 × Mem)) (a1 : Int32) (a2 : Int32) (M : Mem) : Option (Int32 × Mem) :=
  (if (M 11 5) ≤ a2 then some (a1, M) else (ck a2 8 ((F4_isGone (39 + 5 * a2.toNatClampNeg) M).bind (fun q5 => (if q5 = (0 : Int32) then (F9_gone_b37 kh) a1 a2 M else (F9_gone_b37 kh) (a1 ||| ((1 : Int32) <<< (a2 &&& (31 : Int32)))) a2 M)))))
noncomputable def F9_gone_h8 : Nat → Int32 → Int32 → Mem → Option (Int32 × Mem)
  | 0, _, _, _ => none
  | n + 1, a1, a2, M => F9_gone_p8 (F9_gone_h8 n) a1 a2 M
noncomputable def F9_gone (mc : Mem) : Option (Int32 × Mem) :=
  ((F9_refresh mc).bind (fun q6 => ((F9_gone_h8 FU) (0 : Int32) (0 : Int32) q6)))
set_option maxHeartbeats 4000000 in
set_option maxRecDepth 100000 in
theorem kX9_gone (l : Launch) (g : GG) (mc mm : Mem) (q : Int32 × Mem) (hF : F9_gone mc = some q) : KI l yX9_gone cX9_gone 3 .int 3 77 g [.ref (g.1 0)] mc mm q.1 (q.2, mm) := by
  intro sz
  refine x_start (Qc := fun z => QI g z q.1 (q.2, mm)) (by decide +kernel) (Nat.le_of_ble_eq_true rfl) ?_ sz
  intro p e s m args below meth c ls Z hr hlk hP hl
  have hx := Z.1.1
  have hb := Z.1.2.1
  have hown := Z.1.2.2.2.1
  have hts := Z.1.2.2.2.2
  have hS : va_S (AA g s.heap.size) s.heap s.heap [] := va_S.rf
  have hl : lv_has ls 3 [(0, .ref (g.1 0))] := hl
  unfold F9_gone at hF
  have hL8 : ∀ n : Nat, ∀ (a1 : Int32) (a2 : Int32) (M : Mem), F9_gone_h8 n a1 a2 M = some q → ∀ (H : Heap) (locs : List Loc) (ls : Array Slot), lv_has ls 3 [(0, .ref (g.1 0)), (1, .int a1), (2, .int a2)] → va_P g.2.2.1 vwCl (wL g M mm) H → va_S (AA g s.heap.size) s.heap H locs → W p l e { frames := 3, cells := 0, slots := 0, locals := 77 } s m args below meth c H locs 0 0 (MQ below (QI g s.heap.size q.1 (q.2, mm)) args s 0 0 (AA g s.heap.size)) (F0 m 8 ls []) := by
    intro n
    induction n with
    | zero => intro a1 a2 M hF H locs ls hl hP hS; exact absurd hF (fun z => nomatch (show (none : Option _) = some q from z))
    | succ n ih =>
      generalize hkh : F9_gone_h8 n = kh at ih
      have hb37 : ∀ (a1 : Int32) (a2 : Int32) (M : Mem), F9_gone_b37 kh a1 a2 M = some q → ∀ (H : Heap) (locs : List Loc) (ls : Array Slot), lv_has ls 3 [(0, .ref (g.1 0)), (1, .int a1), (2, .int a2)] → va_P g.2.2.1 vwCl (wL g M mm) H → va_S (AA g s.heap.size) s.heap H locs → W p l e { frames := 3, cells := 0, slots := 0, locals := 77 } s m args below meth c H locs 0 0 (MQ below (QI g s.heap.size q.1 (q.2, mm)) args s 0 0 (AA g s.heap.size)) (F0 m 37 ls []) := by
        intro a1 a2 M hF H locs ls hl hP hS
        unfold F9_gone_b37 at hF
        refine lv_iinc (lv' := [(2, .int (a2 + (1 : Int32))), (0, .ref (g.1 0)), (1, .int a1)]) (v := (a2 + (1 : Int32))) hx hb dX9_gone_37 hl (k := 2) rfl (io_1 _) (Nat.le_of_ble_eq_true rfl) rfl (fun ls hl => ?_)
        refine lv_goto (tgt := 8) hx hb dX9_gone_40 rfl ?_
        exact ih _ _ _ hF _ _ _ (lv_sub hl [1, 2, 0] rfl) hP hS
      intro a1 a2 M hF H locs ls hl hP hS
      have hF : F9_gone_p8 (F9_gone_h8 n) a1 a2 M = some q := hF
      rw [hkh] at hF
      unfold F9_gone_p8 at hF
      refine lv_iload_n hx hb dX9_gone_8 rfl (lv_at hl 2 rfl) ?_
      refine lv_aload_n hx hb dX9_gone_9 rfl (lv_at hl 0 rfl) ?_
      refine gf9_2 Z hP wd_1_23 dX9_gone_10 ?_
      refine gf5_5N Z hP ck_11 nf_7 dX9_gone_13 ?_
      refine lv_icmp_ge (tgt := 43) hx hb dX9_gone_16 rfl (fun hc => ?_) (fun hc => ?_)
      · have hF := (if_pos hc).symm.trans hF
        refine lv_iload_n hx hb dX9_gone_43 rfl (lv_at hl 1 rfl) ?_
        exact ret_IWC Z hr hlk hP hS hF dX9_gone_44
      · have hF := (if_neg hc).symm.trans hF
        refine lv_aload_n hx hb dX9_gone_19 rfl (lv_at hl 0 rfl) ?_
        refine gf9_8 Z hP wd_2_19 dX9_gone_20 ?_
        refine lv_iload_n hx hb dX9_gone_23 rfl (lv_at hl 2 rfl) ?_
        obtain ⟨hi4, hF⟩ := ck_ok hF
        refine rq_24 Z hP hi4 dX9_gone_24 ?_
        obtain ⟨q5, hq5, hF⟩ := bd_ok hF
        refine xX4_isGone Z hP hS (ir_24 hi4) hq5 wd_26_10 hl.1 (Nat.le_of_ble_eq_true rfl) ⟨Nat.le_of_ble_eq_true rfl, Nat.le_of_ble_eq_true rfl⟩ dX9_gone_25 (fun H locs hP hS => ?_)
        refine lv_if_eq (tgt := 37) hx hb dX9_gone_28 rfl (fun hc => ?_) (fun hc => ?_)
        · have hF := (if_pos hc).symm.trans hF
          exact hb37 _ _ _ hF _ _ _ (lv_sub hl [0, 1, 2] rfl) hP hS
        · have hF := (if_neg hc).symm.trans hF
          refine lv_iload_n hx hb dX9_gone_31 rfl (lv_at hl 1 rfl) ?_
          refine lv_iconst (v := (1 : Int32)) hx hb dX9_gone_32 ic_1 ?_
          refine lv_iload_n hx hb dX9_gone_33 rfl (lv_at hl 2 rfl) ?_
          refine lv_ishl hx hb dX9_gone_34 ?_
          refine lv_ior hx hb dX9_gone_35 ?_
          refine lv_istore_n (lv' := [(1, .int (a1 ||| ((1 : Int32) <<< (a2 &&& (31 : Int32))))), (0, .ref (g.1 0)), (2, .int a2)]) hx hb dX9_gone_36 rfl hl (Nat.le_of_ble_eq_true rfl) rfl (fun ls hl => ?_)
          exact hb37 _ _ _ hF _ _ _ (lv_sub hl [1, 0, 2] rfl) hP hS
  refine lv_aload_n hx hb dX9_gone_0 rfl (lv_at hl 0 rfl) ?_
  obtain ⟨q6, hq6, hF⟩ := bd_ok hF
  refine xX9_refresh Z hP hS hq6 wd_20_10 hl.1 (Nat.le_of_ble_eq_true rfl) ⟨Nat.le_of_ble_eq_true rfl, Nat.le_of_ble_eq_true rfl⟩ dX9_gone_1 (fun H locs hP hS => ?_)
  refine lv_iconst (v := (0 : Int32)) hx hb dX9_gone_4 ic_0 ?_
  refine lv_istore_n (lv' := [(1, .int (0 : Int32)), (0, .ref (g.1 0))]) hx hb dX9_gone_5 rfl hl (Nat.le_of_ble_eq_true rfl) rfl (fun ls hl => ?_)
  refine lv_iconst (v := (0 : Int32)) hx hb dX9_gone_6 ic_0 ?_
  refine lv_istore_n (lv' := [(2, .int (0 : Int32)), (1, .int (0 : Int32)), (0, .ref (g.1 0))]) hx hb dX9_gone_7 rfl hl (Nat.le_of_ble_eq_true rfl) rfl (fun ls hl => ?_)
  exact (hL8 FU) _ _ _ hF _ _ _ (lv_sub hl [2, 1, 0] rfl) hP hS
theorem xX9_gone {p : Program} {l : Launch} {e : Env} {R : Room} {s : State} {m : MethodId} {args : Array Value} {below : List Frame} {meth : Method} {c : Code} {H : Heap} {locs : List Loc} {Q : State → Prop} {cc : ByteArray} {nL : Nat} {own : String} {g : GG} {pc index : Nat} {ls : Array Slot} {rest : List Value} {mc mm : Mem} (Z : ZZ p s m args c cc nL own g) (hP : va_P g.2.2.1 vwCl (wL g mc mm) H) (hS : va_S (AA g s.heap.size) s.heap H locs) {q : Int32 × Mem} (hq : F9_gone mc = some q) (hlk : Cond.methodLink own index yX9_gone ∈ wsL_law) (hsz : ls.size = nL) (hro : (rest.map fun v => v.category).sum ≤ 8) (hR : 3 + 1 ≤ R.frames ∧ 8 + (3 + 11) + 77 ≤ R.locals) (hdg : decode cc pc = .ok (.invokevirtual index, 3)) (kk : ∀ (H : Heap) (locs : List Loc), va_P g.2.2.1 vwCl (wL g q.2 mm) H → va_S (AA g s.heap.size) s.heap H locs → W p l e R s m args below meth c H locs 0 0 Q (F0 m (pc + 3) ls (.int q.1 :: rest))) : W p l e R s m args below meth c H locs 0 0 Q (F0 m pc ls (.ref (g.1 0) :: rest)) :=
  x_VI Z hP hS (kX9_gone l g mc mm q hq) (isO_w ck_0) (ci := 9) (by decide) rfl rfl mf_X9_gone mv_X9_gone hlk rfl rfl hsz hro hR hdg kk
theorem dX9_leastWellOfTwo_0 : decode cX9_leastWellOfTwo 0 = .ok (.iconst 0, 1) := by decide +kernel
theorem dX9_leastWellOfTwo_1 : decode cX9_leastWellOfTwo 1 = .ok (.istore_n 2, 1) := by decide +kernel
theorem dX9_leastWellOfTwo_2 : decode cX9_leastWellOfTwo 2 = .ok (.iconst 0, 1) := by decide +kernel
theorem dX9_leastWellOfTwo_3 : decode cX9_leastWellOfTwo 3 = .ok (.istore_n 3, 1) := by decide +kernel
theorem dX9_leastWellOfTwo_4 : decode cX9_leastWellOfTwo 4 = .ok (.iconst 0, 1) := by decide +kernel
theorem dX9_leastWellOfTwo_5 : decode cX9_leastWellOfTwo 5 = .ok (.istore 4, 2) := by decide +kernel
theorem dX9_leastWellOfTwo_7 : decode cX9_leastWellOfTwo 7 = .ok (.iload 4, 2) := by decide +kernel
theorem dX9_leastWellOfTwo_9 : decode cX9_leastWellOfTwo 9 = .ok (.aload_n 0, 1) := by decide +kernel
theorem dX9_leastWellOfTwo_10 : decode cX9_leastWellOfTwo 10 = .ok (.getfield 28, 3) := by decide +kernel
theorem dX9_leastWellOfTwo_13 : decode cX9_leastWellOfTwo 13 = .ok (.getfield 134, 3) := by decide +kernel
theorem dX9_leastWellOfTwo_16 : decode cX9_leastWellOfTwo 16 = .ok (.if_icmp .ge 53, 3) := by decide +kernel
theorem dX9_leastWellOfTwo_19 : decode cX9_leastWellOfTwo 19 = .ok (.aload_n 0, 1) := by decide +kernel
theorem dX9_leastWellOfTwo_20 : decode cX9_leastWellOfTwo 20 = .ok (.getfield 63, 3) := by decide +kernel
theorem dX9_leastWellOfTwo_23 : decode cX9_leastWellOfTwo 23 = .ok (.iload 4, 2) := by decide +kernel
theorem dX9_leastWellOfTwo_25 : decode cX9_leastWellOfTwo 25 = .ok (.aaload, 1) := by decide +kernel
theorem dX9_leastWellOfTwo_26 : decode cX9_leastWellOfTwo 26 = .ok (.getfield 183, 3) := by decide +kernel
theorem dX9_leastWellOfTwo_29 : decode cX9_leastWellOfTwo 29 = .ok (.iload_n 1, 1) := by decide +kernel
theorem dX9_leastWellOfTwo_30 : decode cX9_leastWellOfTwo 30 = .ok (.iaload, 1) := by decide +kernel
theorem dX9_leastWellOfTwo_31 : decode cX9_leastWellOfTwo 31 = .ok (.iconst 1, 1) := by decide +kernel
theorem dX9_leastWellOfTwo_32 : decode cX9_leastWellOfTwo 32 = .ok (.if_icmp .ne 31, 3) := by decide +kernel
theorem dX9_leastWellOfTwo_35 : decode cX9_leastWellOfTwo 35 = .ok (.iconst 1, 1) := by decide +kernel
theorem dX9_leastWellOfTwo_36 : decode cX9_leastWellOfTwo 36 = .ok (.aload_n 0, 1) := by decide +kernel
theorem dX9_leastWellOfTwo_37 : decode cX9_leastWellOfTwo 37 = .ok (.getfield 63, 3) := by decide +kernel
theorem dX9_leastWellOfTwo_40 : decode cX9_leastWellOfTwo 40 = .ok (.iload 4, 2) := by decide +kernel
theorem dX9_leastWellOfTwo_42 : decode cX9_leastWellOfTwo 42 = .ok (.aaload, 1) := by decide +kernel
theorem dX9_leastWellOfTwo_43 : decode cX9_leastWellOfTwo 43 = .ok (.getfield 179, 3) := by decide +kernel
theorem dX9_leastWellOfTwo_46 : decode cX9_leastWellOfTwo 46 = .ok (.iload_n 1, 1) := by decide +kernel
theorem dX9_leastWellOfTwo_47 : decode cX9_leastWellOfTwo 47 = .ok (.iaload, 1) := by decide +kernel
theorem dX9_leastWellOfTwo_48 : decode cX9_leastWellOfTwo 48 = .ok (.ishl, 1) := by decide +kernel
theorem dX9_leastWellOfTwo_49 : decode cX9_leastWellOfTwo 49 = .ok (.istore 5, 2) := by decide +kernel
theorem dX9_leastWellOfTwo_51 : decode cX9_leastWellOfTwo 51 = .ok (.iload_n 3, 1) := by decide +kernel
theorem dX9_leastWellOfTwo_52 : decode cX9_leastWellOfTwo 52 = .ok (.iload_n 2, 1) := by decide +kernel
theorem dX9_leastWellOfTwo_53 : decode cX9_leastWellOfTwo 53 = .ok (.iload 5, 2) := by decide +kernel
theorem dX9_leastWellOfTwo_55 : decode cX9_leastWellOfTwo 55 = .ok (.iand, 1) := by decide +kernel
theorem dX9_leastWellOfTwo_56 : decode cX9_leastWellOfTwo 56 = .ok (.ior, 1) := by decide +kernel
theorem dX9_leastWellOfTwo_57 : decode cX9_leastWellOfTwo 57 = .ok (.istore_n 3, 1) := by decide +kernel
theorem dX9_leastWellOfTwo_58 : decode cX9_leastWellOfTwo 58 = .ok (.iload_n 2, 1) := by decide +kernel
theorem dX9_leastWellOfTwo_59 : decode cX9_leastWellOfTwo 59 = .ok (.iload 5, 2) := by decide +kernel
theorem dX9_leastWellOfTwo_61 : decode cX9_leastWellOfTwo 61 = .ok (.ior, 1) := by decide +kernel
theorem dX9_leastWellOfTwo_62 : decode cX9_leastWellOfTwo 62 = .ok (.istore_n 2, 1) := by decide +kernel
theorem dX9_leastWellOfTwo_63 : decode cX9_leastWellOfTwo 63 = .ok (.iinc 4 1, 3) := by decide +kernel
theorem dX9_leastWellOfTwo_66 : decode cX9_leastWellOfTwo 66 = .ok (.goto (-59), 3) := by decide +kernel
theorem dX9_leastWellOfTwo_69 : decode cX9_leastWellOfTwo 69 = .ok (.iconst 0, 1) := by decide +kernel
theorem dX9_leastWellOfTwo_70 : decode cX9_leastWellOfTwo 70 = .ok (.istore 4, 2) := by decide +kernel
theorem dX9_leastWellOfTwo_72 : decode cX9_leastWellOfTwo 72 = .ok (.iload 4, 2) := by decide +kernel
theorem dX9_leastWellOfTwo_74 : decode cX9_leastWellOfTwo 74 = .ok (.aload_n 0, 1) := by decide +kernel
theorem dX9_leastWellOfTwo_75 : decode cX9_leastWellOfTwo 75 = .ok (.getfield 21, 3) := by decide +kernel
theorem dX9_leastWellOfTwo_78 : decode cX9_leastWellOfTwo 78 = .ok (.getfield 119, 3) := by decide +kernel
theorem dX9_leastWellOfTwo_81 : decode cX9_leastWellOfTwo 81 = .ok (.if_icmp .ge 22, 3) := by decide +kernel
theorem dX9_leastWellOfTwo_84 : decode cX9_leastWellOfTwo 84 = .ok (.iload_n 3, 1) := by decide +kernel
theorem dX9_leastWellOfTwo_85 : decode cX9_leastWellOfTwo 85 = .ok (.iload 4, 2) := by decide +kernel
theorem dX9_leastWellOfTwo_87 : decode cX9_leastWellOfTwo 87 = .ok (.ishr, 1) := by decide +kernel
theorem dX9_leastWellOfTwo_88 : decode cX9_leastWellOfTwo 88 = .ok (.iconst 1, 1) := by decide +kernel
theorem dX9_leastWellOfTwo_89 : decode cX9_leastWellOfTwo 89 = .ok (.iand, 1) := by decide +kernel
theorem dX9_leastWellOfTwo_90 : decode cX9_leastWellOfTwo 90 = .ok (.iconst 1, 1) := by decide +kernel
theorem dX9_leastWellOfTwo_91 : decode cX9_leastWellOfTwo 91 = .ok (.if_icmp .ne 6, 3) := by decide +kernel
theorem dX9_leastWellOfTwo_94 : decode cX9_leastWellOfTwo 94 = .ok (.iload 4, 2) := by decide +kernel
theorem dX9_leastWellOfTwo_96 : decode cX9_leastWellOfTwo 96 = .ok (.ireturn, 1) := by decide +kernel
theorem dX9_leastWellOfTwo_97 : decode cX9_leastWellOfTwo 97 = .ok (.iinc 4 1, 3) := by decide +kernel
theorem dX9_leastWellOfTwo_100 : decode cX9_leastWellOfTwo 100 = .ok (.goto (-28), 3) := by decide +kernel
theorem dX9_leastWellOfTwo_103 : decode cX9_leastWellOfTwo 103 = .ok (.iconst (-1), 1) := by decide +kernel
theorem dX9_leastWellOfTwo_104 : decode cX9_leastWellOfTwo 104 = .ok (.ireturn, 1) := by decide +kernel
noncomputable def F9_leastWellOfTwo_p72 (kh : Int32 → Int32 → Option (Int32)) (v1 : Int32) (mc : Mem) (a3 : Int32) (a4 : Int32) : Option (Int32) :=
  (if (mc 6 4) ≤ a4 then some (-1 : Int32) else (if ((a3 >>> (a4 &&& (31 : Int32))) &&& (1 : Int32)) = (1 : Int32) then some a4 else kh a3 (a4 + (1 : Int32))))
noncomputable def F9_leastWellOfTwo_h72 (v1 : Int32) (mc : Mem) : Nat → Int32 → Int32 → Option (Int32)
  | 0, _, _ => none
  | n + 1, a3, a4 => F9_leastWellOfTwo_p72 (F9_leastWellOfTwo_h72 v1 mc n) v1 mc a3 a4
noncomputable def F9_leastWellOfTwo_b69 (v1 : Int32) (mc : Mem) (a3 : Int32) : Option (Int32) :=
  (F9_leastWellOfTwo_h72 v1 mc FU) a3 (0 : Int32)
noncomputable def F9_leastWellOfTwo_b63 (kh : Int32 → Int32 → Int32 → Option (Int32)) (kx69 : Int32 → Option (Int32)) (v1 : Int32) (mc : Mem) (a2 : Int32) (a3 : Int32) (a4 : Int32) : Option (Int32) :=
  kh a2 a3 (a4 + (1 : Int32))
noncomputable def F9_leastWellOfTwo_p7 (kh : Int32 → Int32 → Int32 → Option (Int32)) (kx69 : Int32 → Option (Int32)) (v1 : Int32) (mc : Mem) (a2 : Int32) (a3 : Int32) (a4 : Int32) : Option (Int32) :=
  (if (mc 11 5) ≤ a4 then kx69 a3 else (ck a4 8 (ck v1 40 (if (mc ((39 + 5 * a4.toNatClampNeg) + 4) v1.toNatClampNeg) = (1 : Int32) then (ck a4 8 (ck v1 40 ((F9_leastWellOfTwo_b63 kh kx69 v1 mc) (a2 ||| ((1 : Int32) <<< ((mc ((39 + 5 * a4.toNatClampNeg) + 1) v1.toNatClampNeg) &&& (31 : Int32)))) (a3 ||| (a2 &&& ((1 : Int32) <<< ((mc ((39 + 5 * a4.toNatClampNeg) + 1) v1.toNatClampNeg) &&& (31 : Int32))))) a4))) else (F9_leastWellOfTwo_b63 kh kx69 v1 mc) a2 a3 a4))))
noncomputable def F9_leastWellOfTwo_h7 (kx69 : Int32 → Option (Int32)) (v1 : Int32) (mc : Mem) : Nat → Int32 → Int32 → Int32 → Option (Int32)
  | 0, _, _, _ => none
  | n + 1, a2, a3, a4 => F9_leastWellOfTwo_p7 (F9_leastWellOfTwo_h7 kx69 v1 mc n) kx69 v1 mc a2 a3 a4
noncomputable def F9_leastWellOfTwo (v1 : Int32) (mc : Mem) : Option (Int32) :=
  (F9_leastWellOfTwo_h7 (F9_leastWellOfTwo_b69 v1 mc) v1 mc FU) (0 : Int32) (0 : Int32) (0 : Int32)
set_option maxHeartbeats 4000000 in
set_option maxRecDepth 100000 in
theorem kX9_leastWellOfTwo (l : Launch) (g : GG) (v1 : Int32) (mc mm : Mem) (q : Int32) (hF : F9_leastWellOfTwo v1 mc = some q) : KI l yX9_leastWellOfTwo cX9_leastWellOfTwo 6 .int 0 0 g [.ref (g.1 0), .int v1] mc mm q (mc, mm) := by
  intro sz
  refine x_start (Qc := fun z => QI g z q (mc, mm)) (by decide +kernel) (Nat.le_of_ble_eq_true rfl) ?_ sz
  intro p e s m args below meth c ls Z hr hlk hP hl
  have hx := Z.1.1
  have hb := Z.1.2.1
  have hown := Z.1.2.2.2.1
  have hts := Z.1.2.2.2.2
  have hS : va_S (AA g s.heap.size) s.heap s.heap [] := va_S.rf
  have hl : lv_has ls 6 [(0, .ref (g.1 0)), (1, .int v1)] := hl
  unfold F9_leastWellOfTwo at hF
  have hL72 : ∀ n : Nat, ∀ (a3 : Int32) (a4 : Int32), F9_leastWellOfTwo_h72 v1 mc n a3 a4 = some q → ∀ (H : Heap) (locs : List Loc) (ls : Array Slot), lv_has ls 6 [(0, .ref (g.1 0)), (3, .int a3), (4, .int a4)] → va_P g.2.2.1 vwCl (wL g mc mm) H → va_S (AA g s.heap.size) s.heap H locs → W p l e { frames := 0, cells := 0, slots := 0, locals := 0 } s m args below meth c H locs 0 0 (MQ below (QI g s.heap.size q (mc, mm)) args s 0 0 (AA g s.heap.size)) (F0 m 72 ls []) := by
    intro n
    induction n with
    | zero => intro a3 a4 hF H locs ls hl hP hS; exact absurd hF (fun z => nomatch (show (none : Option _) = some q from z))
    | succ n ih =>
      generalize hkh : F9_leastWellOfTwo_h72 v1 mc n = kh at ih
      intro a3 a4 hF H locs ls hl hP hS
      have hF : F9_leastWellOfTwo_p72 (F9_leastWellOfTwo_h72 v1 mc n) v1 mc a3 a4 = some q := hF
      rw [hkh] at hF
      unfold F9_leastWellOfTwo_p72 at hF
      refine lv_iload hx hb dX9_leastWellOfTwo_72 (lv_at hl 2 rfl) ?_
      refine lv_aload_n hx hb dX9_leastWellOfTwo_74 rfl (lv_at hl 0 rfl) ?_
      refine gf9_1 Z hP wd_1_19 dX9_leastWellOfTwo_75 ?_
      refine gf8_4N Z hP ck_6 nf_2 dX9_leastWellOfTwo_78 ?_
      refine lv_icmp_ge (tgt := 103) hx hb dX9_leastWellOfTwo_81 rfl (fun hc => ?_) (fun hc => ?_)
      · have hF := (if_pos hc).symm.trans hF
        refine lv_iconst (v := (-1 : Int32)) hx hb dX9_leastWellOfTwo_103 ic_m1 ?_
        exact ret_I Z hr hlk hP hS hF dX9_leastWellOfTwo_104
      · have hF := (if_neg hc).symm.trans hF
        refine lv_iload_n hx hb dX9_leastWellOfTwo_84 rfl (lv_at hl 1 rfl) ?_
        refine lv_iload hx hb dX9_leastWellOfTwo_85 (lv_at hl 2 rfl) ?_
        refine lv_ishr hx hb dX9_leastWellOfTwo_87 ?_
        refine lv_iconst (v := (1 : Int32)) hx hb dX9_leastWellOfTwo_88 ic_1 ?_
        refine lv_iand hx hb dX9_leastWellOfTwo_89 ?_
        refine lv_iconst (v := (1 : Int32)) hx hb dX9_leastWellOfTwo_90 ic_1 ?_
        refine lv_icmp_ne (tgt := 97) hx hb dX9_leastWellOfTwo_91 rfl (fun hc => ?_) (fun hc => ?_)
        · have hF := (if_neg hc).symm.trans hF
          refine lv_iinc (lv' := [(4, .int (a4 + (1 : Int32))), (0, .ref (g.1 0)), (3, .int a3)]) (v := (a4 + (1 : Int32))) hx hb dX9_leastWellOfTwo_97 hl (k := 2) rfl (io_1 _) (Nat.le_of_ble_eq_true rfl) rfl (fun ls hl => ?_)
          refine lv_goto (tgt := 72) hx hb dX9_leastWellOfTwo_100 rfl ?_
          exact ih _ _ hF _ _ _ (lv_sub hl [1, 2, 0] rfl) hP hS
        · have hF := (if_pos hc).symm.trans hF
          refine lv_iload hx hb dX9_leastWellOfTwo_94 (lv_at hl 2 rfl) ?_
          exact ret_I Z hr hlk hP hS hF dX9_leastWellOfTwo_96
  have hb69 : ∀ (a3 : Int32), F9_leastWellOfTwo_b69 v1 mc a3 = some q → ∀ (H : Heap) (locs : List Loc) (ls : Array Slot), lv_has ls 6 [(0, .ref (g.1 0)), (3, .int a3)] → va_P g.2.2.1 vwCl (wL g mc mm) H → va_S (AA g s.heap.size) s.heap H locs → W p l e { frames := 0, cells := 0, slots := 0, locals := 0 } s m args below meth c H locs 0 0 (MQ below (QI g s.heap.size q (mc, mm)) args s 0 0 (AA g s.heap.size)) (F0 m 69 ls []) := by
    intro a3 hF H locs ls hl hP hS
    unfold F9_leastWellOfTwo_b69 at hF
    refine lv_iconst (v := (0 : Int32)) hx hb dX9_leastWellOfTwo_69 ic_0 ?_
    refine lv_istore (lv' := [(4, .int (0 : Int32)), (0, .ref (g.1 0)), (3, .int a3)]) hx hb dX9_leastWellOfTwo_70 hl (Nat.le_of_ble_eq_true rfl) rfl (fun ls hl => ?_)
    exact (hL72 FU) _ _ hF _ _ _ (lv_sub hl [1, 2, 0] rfl) hP hS
  have hL7 : ∀ (kx69 : Int32 → Option (Int32)), (∀ (a3 : Int32), kx69 a3 = some q → ∀ (H : Heap) (locs : List Loc) (ls : Array Slot), lv_has ls 6 [(0, .ref (g.1 0)), (3, .int a3)] → va_P g.2.2.1 vwCl (wL g mc mm) H → va_S (AA g s.heap.size) s.heap H locs → W p l e { frames := 0, cells := 0, slots := 0, locals := 0 } s m args below meth c H locs 0 0 (MQ below (QI g s.heap.size q (mc, mm)) args s 0 0 (AA g s.heap.size)) (F0 m 69 ls [])) → ∀ n : Nat, ∀ (a2 : Int32) (a3 : Int32) (a4 : Int32), F9_leastWellOfTwo_h7 kx69 v1 mc n a2 a3 a4 = some q → ∀ (H : Heap) (locs : List Loc) (ls : Array Slot), lv_has ls 6 [(0, .ref (g.1 0)), (1, .int v1), (2, .int a2), (3, .int a3), (4, .int a4)] → va_P g.2.2.1 vwCl (wL g mc mm) H → va_S (AA g s.heap.size) s.heap H locs → W p l e { frames := 0, cells := 0, slots := 0, locals := 0 } s m args below meth c H locs 0 0 (MQ below (QI g s.heap.size q (mc, mm)) args s 0 0 (AA g s.heap.size)) (F0 m 7 ls []) := by
    intro kx69 hx69 n
    induction n with
    | zero => intro a2 a3 a4 hF H locs ls hl hP hS; exact absurd hF (fun z => nomatch (show (none : Option _) = some q from z))
    | succ n ih =>
      generalize hkh : F9_leastWellOfTwo_h7 kx69 v1 mc n = kh at ih
      have hb63 : ∀ (a2 : Int32) (a3 : Int32) (a4 : Int32), F9_leastWellOfTwo_b63 kh kx69 v1 mc a2 a3 a4 = some q → ∀ (H : Heap) (locs : List Loc) (ls : Array Slot), lv_has ls 6 [(0, .ref (g.1 0)), (1, .int v1), (2, .int a2), (3, .int a3), (4, .int a4)] → va_P g.2.2.1 vwCl (wL g mc mm) H → va_S (AA g s.heap.size) s.heap H locs → W p l e { frames := 0, cells := 0, slots := 0, locals := 0 } s m args below meth c H locs 0 0 (MQ below (QI g s.heap.size q (mc, mm)) args s 0 0 (AA g s.heap.size)) (F0 m 63 ls []) := by
        intro a2 a3 a4 hF H locs ls hl hP hS
        unfold F9_leastWellOfTwo_b63 at hF
        refine lv_iinc (lv' := [(4, .int (a4 + (1 : Int32))), (0, .ref (g.1 0)), (1, .int v1), (2, .int a2), (3, .int a3)]) (v := (a4 + (1 : Int32))) hx hb dX9_leastWellOfTwo_63 hl (k := 4) rfl (io_1 _) (Nat.le_of_ble_eq_true rfl) rfl (fun ls hl => ?_)
        refine lv_goto (tgt := 7) hx hb dX9_leastWellOfTwo_66 rfl ?_
        exact ih _ _ _ hF _ _ _ (lv_sub hl [1, 2, 3, 4, 0] rfl) hP hS
      intro a2 a3 a4 hF H locs ls hl hP hS
      have hF : F9_leastWellOfTwo_p7 (F9_leastWellOfTwo_h7 kx69 v1 mc n) kx69 v1 mc a2 a3 a4 = some q := hF
      rw [hkh] at hF
      unfold F9_leastWellOfTwo_p7 at hF
      refine lv_iload hx hb dX9_leastWellOfTwo_7 (lv_at hl 4 rfl) ?_
      refine lv_aload_n hx hb dX9_leastWellOfTwo_9 rfl (lv_at hl 0 rfl) ?_
      refine gf9_2 Z hP wd_1_23 dX9_leastWellOfTwo_10 ?_
      refine gf5_5N Z hP ck_11 nf_7 dX9_leastWellOfTwo_13 ?_
      refine lv_icmp_ge (tgt := 69) hx hb dX9_leastWellOfTwo_16 rfl (fun hc => ?_) (fun hc => ?_)
      · have hF := (if_pos hc).symm.trans hF
        exact hx69 _ hF _ _ _ (lv_sub hl [0, 3] rfl) hP hS
      · have hF := (if_neg hc).symm.trans hF
        refine lv_aload_n hx hb dX9_leastWellOfTwo_19 rfl (lv_at hl 0 rfl) ?_
        refine gf9_8 Z hP wd_2_19 dX9_leastWellOfTwo_20 ?_
        refine lv_iload hx hb dX9_leastWellOfTwo_23 (lv_at hl 4 rfl) ?_
        obtain ⟨hi5, hF⟩ := ck_ok hF
        refine rq_24 Z hP hi5 dX9_leastWellOfTwo_25 ?_
        refine gf4_3N Z hP (ir_24 hi5) nf_16 dX9_leastWellOfTwo_26 ?_
        refine lv_iload_n hx hb dX9_leastWellOfTwo_29 rfl (lv_at hl 1 rfl) ?_
        obtain ⟨hi6, hF⟩ := ck_ok hF
        refine ra_ld Z hP (ia_4_3 (ir_24 hi5)) hi6 dX9_leastWellOfTwo_30 ?_
        refine lv_iconst (v := (1 : Int32)) hx hb dX9_leastWellOfTwo_31 ic_1 ?_
        refine lv_icmp_ne (tgt := 63) hx hb dX9_leastWellOfTwo_32 rfl (fun hc => ?_) (fun hc => ?_)
        · have hF := (if_neg hc).symm.trans hF
          exact hb63 _ _ _ hF _ _ _ (lv_sub hl [0, 1, 2, 3, 4] rfl) hP hS
        · have hF := (if_pos hc).symm.trans hF
          refine lv_iconst (v := (1 : Int32)) hx hb dX9_leastWellOfTwo_35 ic_1 ?_
          refine lv_aload_n hx hb dX9_leastWellOfTwo_36 rfl (lv_at hl 0 rfl) ?_
          refine gf9_8 Z hP wd_2_19 dX9_leastWellOfTwo_37 ?_
          refine lv_iload hx hb dX9_leastWellOfTwo_40 (lv_at hl 4 rfl) ?_
          obtain ⟨hi7, hF⟩ := ck_ok hF
          refine rq_24 Z hP hi7 dX9_leastWellOfTwo_42 ?_
          refine gf4_0N Z hP (ir_24 hi7) nf_14 dX9_leastWellOfTwo_43 ?_
          refine lv_iload_n hx hb dX9_leastWellOfTwo_46 rfl (lv_at hl 1 rfl) ?_
          obtain ⟨hi8, hF⟩ := ck_ok hF
          refine ra_ld Z hP (ia_4_0 (ir_24 hi7)) hi8 dX9_leastWellOfTwo_47 ?_
          refine lv_ishl hx hb dX9_leastWellOfTwo_48 ?_
          refine lv_istore (lv' := [(5, .int ((1 : Int32) <<< ((mc ((39 + 5 * a4.toNatClampNeg) + 1) v1.toNatClampNeg) &&& (31 : Int32)))), (0, .ref (g.1 0)), (1, .int v1), (2, .int a2), (3, .int a3), (4, .int a4)]) hx hb dX9_leastWellOfTwo_49 hl (Nat.le_of_ble_eq_true rfl) rfl (fun ls hl => ?_)
          refine lv_iload_n hx hb dX9_leastWellOfTwo_51 rfl (lv_at hl 4 rfl) ?_
          refine lv_iload_n hx hb dX9_leastWellOfTwo_52 rfl (lv_at hl 3 rfl) ?_
          refine lv_iload hx hb dX9_leastWellOfTwo_53 (lv_at hl 0 rfl) ?_
          refine lv_iand hx hb dX9_leastWellOfTwo_55 ?_
          refine lv_ior hx hb dX9_leastWellOfTwo_56 ?_
          refine lv_istore_n (lv' := [(3, .int (a3 ||| (a2 &&& ((1 : Int32) <<< ((mc ((39 + 5 * a4.toNatClampNeg) + 1) v1.toNatClampNeg) &&& (31 : Int32)))))), (5, .int ((1 : Int32) <<< ((mc ((39 + 5 * a4.toNatClampNeg) + 1) v1.toNatClampNeg) &&& (31 : Int32)))), (0, .ref (g.1 0)), (1, .int v1), (2, .int a2), (4, .int a4)]) hx hb dX9_leastWellOfTwo_57 rfl hl (Nat.le_of_ble_eq_true rfl) rfl (fun ls hl => ?_)
          refine lv_iload_n hx hb dX9_leastWellOfTwo_58 rfl (lv_at hl 4 rfl) ?_
          refine lv_iload hx hb dX9_leastWellOfTwo_59 (lv_at hl 1 rfl) ?_
          refine lv_ior hx hb dX9_leastWellOfTwo_61 ?_
          refine lv_istore_n (lv' := [(2, .int (a2 ||| ((1 : Int32) <<< ((mc ((39 + 5 * a4.toNatClampNeg) + 1) v1.toNatClampNeg) &&& (31 : Int32))))), (3, .int (a3 ||| (a2 &&& ((1 : Int32) <<< ((mc ((39 + 5 * a4.toNatClampNeg) + 1) v1.toNatClampNeg) &&& (31 : Int32)))))), (5, .int ((1 : Int32) <<< ((mc ((39 + 5 * a4.toNatClampNeg) + 1) v1.toNatClampNeg) &&& (31 : Int32)))), (0, .ref (g.1 0)), (1, .int v1), (4, .int a4)]) hx hb dX9_leastWellOfTwo_62 rfl hl (Nat.le_of_ble_eq_true rfl) rfl (fun ls hl => ?_)
          exact hb63 _ _ _ hF _ _ _ (lv_sub hl [3, 4, 0, 1, 5] rfl) hP hS
  refine lv_iconst (v := (0 : Int32)) hx hb dX9_leastWellOfTwo_0 ic_0 ?_
  refine lv_istore_n (lv' := [(2, .int (0 : Int32)), (0, .ref (g.1 0)), (1, .int v1)]) hx hb dX9_leastWellOfTwo_1 rfl hl (Nat.le_of_ble_eq_true rfl) rfl (fun ls hl => ?_)
  refine lv_iconst (v := (0 : Int32)) hx hb dX9_leastWellOfTwo_2 ic_0 ?_
  refine lv_istore_n (lv' := [(3, .int (0 : Int32)), (2, .int (0 : Int32)), (0, .ref (g.1 0)), (1, .int v1)]) hx hb dX9_leastWellOfTwo_3 rfl hl (Nat.le_of_ble_eq_true rfl) rfl (fun ls hl => ?_)
  refine lv_iconst (v := (0 : Int32)) hx hb dX9_leastWellOfTwo_4 ic_0 ?_
  refine lv_istore (lv' := [(4, .int (0 : Int32)), (3, .int (0 : Int32)), (2, .int (0 : Int32)), (0, .ref (g.1 0)), (1, .int v1)]) hx hb dX9_leastWellOfTwo_5 hl (Nat.le_of_ble_eq_true rfl) rfl (fun ls hl => ?_)
  exact (hL7 _ hb69 FU) _ _ _ hF _ _ _ (lv_sub hl [3, 4, 2, 1, 0] rfl) hP hS
theorem xX9_leastWellOfTwo {p : Program} {l : Launch} {e : Env} {R : Room} {s : State} {m : MethodId} {args : Array Value} {below : List Frame} {meth : Method} {c : Code} {H : Heap} {locs : List Loc} {Q : State → Prop} {cc : ByteArray} {nL : Nat} {own : String} {g : GG} {pc index : Nat} {ls : Array Slot} {rest : List Value} {mc mm : Mem} (Z : ZZ p s m args c cc nL own g) (hP : va_P g.2.2.1 vwCl (wL g mc mm) H) (hS : va_S (AA g s.heap.size) s.heap H locs) {v1 : Int32} {q : Int32} (hq : F9_leastWellOfTwo v1 mc = some q) (hlk : Cond.methodLink own index yX9_leastWellOfTwo ∈ wsL_law) (hsz : ls.size = nL) (hro : (rest.map fun v => v.category).sum ≤ 8) (hR : 0 + 1 ≤ R.frames ∧ 8 + (6 + 11) + 0 ≤ R.locals) (hdg : decode cc pc = .ok (.invokevirtual index, 3)) (kk : ∀ (H : Heap) (locs : List Loc), va_P g.2.2.1 vwCl (wL g mc mm) H → va_S (AA g s.heap.size) s.heap H locs → W p l e R s m args below meth c H locs 0 0 Q (F0 m (pc + 3) ls (.int q :: rest))) : W p l e R s m args below meth c H locs 0 0 Q (F0 m pc ls (.int v1 :: .ref (g.1 0) :: rest)) :=
  x_VI Z hP hS (kX9_leastWellOfTwo l g v1 mc mm q hq) (isO_w ck_0) (ci := 9) (by decide) rfl rfl mf_X9_leastWellOfTwo mv_X9_leastWellOfTwo hlk rfl rfl hsz hro hR hdg kk
theorem dX9_babel_0 : decode cX9_babel 0 = .ok (.iload_n 1, 1) := by decide +kernel
theorem dX9_babel_1 : decode cX9_babel 1 = .ok (.iconst 2, 1) := by decide +kernel
theorem dX9_babel_2 : decode cX9_babel 2 = .ok (.invokestatic 101, 3) := by decide +kernel
theorem dX9_babel_5 : decode cX9_babel 5 = .ok (.ifCond .ne 6, 3) := by decide +kernel
theorem dX9_babel_8 : decode cX9_babel 8 = .ok (.bipush (-2), 2) := by decide +kernel
theorem dX9_babel_10 : decode cX9_babel 10 = .ok (.ireturn, 1) := by decide +kernel
theorem dX9_babel_11 : decode cX9_babel 11 = .ok (.aload_n 0, 1) := by decide +kernel
theorem dX9_babel_12 : decode cX9_babel 12 = .ok (.invokevirtual 173, 3) := by decide +kernel
theorem dX9_babel_15 : decode cX9_babel 15 = .ok (.iconst 0, 1) := by decide +kernel
theorem dX9_babel_16 : decode cX9_babel 16 = .ok (.istore_n 2, 1) := by decide +kernel
theorem dX9_babel_17 : decode cX9_babel 17 = .ok (.iload_n 2, 1) := by decide +kernel
theorem dX9_babel_18 : decode cX9_babel 18 = .ok (.bipush 40, 2) := by decide +kernel
theorem dX9_babel_20 : decode cX9_babel 20 = .ok (.if_icmp .ge 30, 3) := by decide +kernel
theorem dX9_babel_23 : decode cX9_babel 23 = .ok (.aload_n 0, 1) := by decide +kernel
theorem dX9_babel_24 : decode cX9_babel 24 = .ok (.iload_n 2, 1) := by decide +kernel
theorem dX9_babel_25 : decode cX9_babel 25 = .ok (.invokevirtual 195, 3) := by decide +kernel
theorem dX9_babel_28 : decode cX9_babel 28 = .ok (.istore_n 3, 1) := by decide +kernel
theorem dX9_babel_29 : decode cX9_babel 29 = .ok (.iload_n 3, 1) := by decide +kernel
theorem dX9_babel_30 : decode cX9_babel 30 = .ok (.iconst (-1), 1) := by decide +kernel
theorem dX9_babel_31 : decode cX9_babel 31 = .ok (.if_icmp .eq 13, 3) := by decide +kernel
theorem dX9_babel_34 : decode cX9_babel 34 = .ok (.iload_n 1, 1) := by decide +kernel
theorem dX9_babel_35 : decode cX9_babel 35 = .ok (.ifCond .ne 7, 3) := by decide +kernel
theorem dX9_babel_38 : decode cX9_babel 38 = .ok (.iload_n 2, 1) := by decide +kernel
theorem dX9_babel_39 : decode cX9_babel 39 = .ok (.goto 4, 3) := by decide +kernel
theorem dX9_babel_42 : decode cX9_babel 42 = .ok (.iload_n 3, 1) := by decide +kernel
theorem dX9_babel_43 : decode cX9_babel 43 = .ok (.ireturn, 1) := by decide +kernel
theorem dX9_babel_44 : decode cX9_babel 44 = .ok (.iinc 2 1, 3) := by decide +kernel
theorem dX9_babel_47 : decode cX9_babel 47 = .ok (.goto (-30), 3) := by decide +kernel
theorem dX9_babel_50 : decode cX9_babel 50 = .ok (.iconst (-1), 1) := by decide +kernel
theorem dX9_babel_51 : decode cX9_babel 51 = .ok (.ireturn, 1) := by decide +kernel
noncomputable def F9_babel_b34 (v1 : Int32) (a2 : Int32) (a3 : Int32) (M : Mem) : Option (Int32 × Mem) :=
  (if v1 = (0 : Int32) then some (a2, M) else some (a3, M))
noncomputable def F9_babel_p17 (kh : Int32 → Mem → Option (Int32 × Mem)) (kx34 : Int32 → Int32 → Mem → Option (Int32 × Mem)) (v1 : Int32) (a2 : Int32) (M : Mem) : Option (Int32 × Mem) :=
  (if (40 : Int32) ≤ a2 then some ((-1 : Int32), M) else ((F9_leastWellOfTwo a2 M).bind (fun q4 => (if q4 = (-1 : Int32) then kh (a2 + (1 : Int32)) M else kx34 a2 q4 M))))
noncomputable def F9_babel_h17 (kx34 : Int32 → Int32 → Mem → Option (Int32 × Mem)) (v1 : Int32) : Nat → Int32 → Mem → Option (Int32 × Mem)
  | 0, _, _ => none
  | n + 1, a2, M => F9_babel_p17 (F9_babel_h17 kx34 v1 n) kx34 v1 a2 M
noncomputable def F9_babel (v1 : Int32) (mc : Mem) : Option (Int32 × Mem) :=
  ((F9_in v1 (2 : Int32)).bind (fun q5 => (if q5 = (0 : Int32) then some ((-2 : Int32), mc) else ((F9_refresh mc).bind (fun q6 => ((F9_babel_h17 (F9_babel_b34 v1) v1 FU) (0 : Int32) q6))))))
set_option maxHeartbeats 4000000 in
set_option maxRecDepth 100000 in
theorem kX9_babel (l : Launch) (g : GG) (v1 : Int32) (mc mm : Mem) (q : Int32 × Mem) (hF : F9_babel v1 mc = some q) : KI l yX9_babel cX9_babel 4 .int 3 77 g [.ref (g.1 0), .int v1] mc mm q.1 (q.2, mm) := by
  intro sz
  refine x_start (Qc := fun z => QI g z q.1 (q.2, mm)) (by decide +kernel) (Nat.le_of_ble_eq_true rfl) ?_ sz
  intro p e s m args below meth c ls Z hr hlk hP hl
  have hx := Z.1.1
  have hb := Z.1.2.1
  have hown := Z.1.2.2.2.1
  have hts := Z.1.2.2.2.2
  have hS : va_S (AA g s.heap.size) s.heap s.heap [] := va_S.rf
  have hl : lv_has ls 4 [(0, .ref (g.1 0)), (1, .int v1)] := hl
  unfold F9_babel at hF
  have hb34 : ∀ (a2 : Int32) (a3 : Int32) (M : Mem), F9_babel_b34 v1 a2 a3 M = some q → ∀ (H : Heap) (locs : List Loc) (ls : Array Slot), lv_has ls 4 [(1, .int v1), (2, .int a2), (3, .int a3)] → va_P g.2.2.1 vwCl (wL g M mm) H → va_S (AA g s.heap.size) s.heap H locs → W p l e { frames := 3, cells := 0, slots := 0, locals := 77 } s m args below meth c H locs 0 0 (MQ below (QI g s.heap.size q.1 (q.2, mm)) args s 0 0 (AA g s.heap.size)) (F0 m 34 ls []) := by
    intro a2 a3 M hF H locs ls hl hP hS
    unfold F9_babel_b34 at hF
    refine lv_iload_n hx hb dX9_babel_34 rfl (lv_at hl 0 rfl) ?_
    refine lv_if_ne (tgt := 42) hx hb dX9_babel_35 rfl (fun hc => ?_) (fun hc => ?_)
    · have hF := (if_neg hc).symm.trans hF
      refine lv_iload_n hx hb dX9_babel_42 rfl (lv_at hl 2 rfl) ?_
      exact ret_IWC Z hr hlk hP hS hF dX9_babel_43
    · have hF := (if_pos hc).symm.trans hF
      refine lv_iload_n hx hb dX9_babel_38 rfl (lv_at hl 1 rfl) ?_
      refine lv_goto (tgt := 43) hx hb dX9_babel_39 rfl ?_
      exact ret_IWC Z hr hlk hP hS hF dX9_babel_43
  have hL17 : ∀ (kx34 : Int32 → Int32 → Mem → Option (Int32 × Mem)), (∀ (a2 : Int32) (a3 : Int32) (M : Mem), kx34 a2 a3 M = some q → ∀ (H : Heap) (locs : List Loc) (ls : Array Slot), lv_has ls 4 [(1, .int v1), (2, .int a2), (3, .int a3)] → va_P g.2.2.1 vwCl (wL g M mm) H → va_S (AA g s.heap.size) s.heap H locs → W p l e { frames := 3, cells := 0, slots := 0, locals := 77 } s m args below meth c H locs 0 0 (MQ below (QI g s.heap.size q.1 (q.2, mm)) args s 0 0 (AA g s.heap.size)) (F0 m 34 ls [])) → ∀ n : Nat, ∀ (a2 : Int32) (M : Mem), F9_babel_h17 kx34 v1 n a2 M = some q → ∀ (H : Heap) (locs : List Loc) (ls : Array Slot), lv_has ls 4 [(0, .ref (g.1 0)), (1, .int v1), (2, .int a2)] → va_P g.2.2.1 vwCl (wL g M mm) H → va_S (AA g s.heap.size) s.heap H locs → W p l e { frames := 3, cells := 0, slots := 0, locals := 77 } s m args below meth c H locs 0 0 (MQ below (QI g s.heap.size q.1 (q.2, mm)) args s 0 0 (AA g s.heap.size)) (F0 m 17 ls []) := by
    intro kx34 hx34 n
    induction n with
    | zero => intro a2 M hF H locs ls hl hP hS; exact absurd hF (fun z => nomatch (show (none : Option _) = some q from z))
    | succ n ih =>
      generalize hkh : F9_babel_h17 kx34 v1 n = kh at ih
      intro a2 M hF H locs ls hl hP hS
      have hF : F9_babel_p17 (F9_babel_h17 kx34 v1 n) kx34 v1 a2 M = some q := hF
      rw [hkh] at hF
      unfold F9_babel_p17 at hF
      refine lv_iload_n hx hb dX9_babel_17 rfl (lv_at hl 2 rfl) ?_
      refine lv_bipush (v := (40 : Int32)) hx hb dX9_babel_18 bp_40 ?_
      refine lv_icmp_ge (tgt := 50) hx hb dX9_babel_20 rfl (fun hc => ?_) (fun hc => ?_)
      · have hF := (if_pos hc).symm.trans hF
        refine lv_iconst (v := (-1 : Int32)) hx hb dX9_babel_50 ic_m1 ?_
        exact ret_IWC Z hr hlk hP hS hF dX9_babel_51
      · have hF := (if_neg hc).symm.trans hF
        refine lv_aload_n hx hb dX9_babel_23 rfl (lv_at hl 0 rfl) ?_
        refine lv_iload_n hx hb dX9_babel_24 rfl (lv_at hl 2 rfl) ?_
        obtain ⟨q4, hq4, hF⟩ := bd_ok hF
        refine xX9_leastWellOfTwo Z hP hS hq4 wd_27_2 hl.1 (Nat.le_of_ble_eq_true rfl) ⟨Nat.le_of_ble_eq_true rfl, Nat.le_of_ble_eq_true rfl⟩ dX9_babel_25 (fun H locs hP hS => ?_)
        refine lv_istore_n (lv' := [(3, .int q4), (0, .ref (g.1 0)), (1, .int v1), (2, .int a2)]) hx hb dX9_babel_28 rfl hl (Nat.le_of_ble_eq_true rfl) rfl (fun ls hl => ?_)
        refine lv_iload_n hx hb dX9_babel_29 rfl (lv_at hl 0 rfl) ?_
        refine lv_iconst (v := (-1 : Int32)) hx hb dX9_babel_30 ic_m1 ?_
        refine lv_icmp_eq (tgt := 44) hx hb dX9_babel_31 rfl (fun hc => ?_) (fun hc => ?_)
        · have hF := (if_pos hc).symm.trans hF
          refine lv_iinc (lv' := [(2, .int (a2 + (1 : Int32))), (3, .int q4), (0, .ref (g.1 0)), (1, .int v1)]) (v := (a2 + (1 : Int32))) hx hb dX9_babel_44 hl (k := 3) rfl (io_1 _) (Nat.le_of_ble_eq_true rfl) rfl (fun ls hl => ?_)
          refine lv_goto (tgt := 17) hx hb dX9_babel_47 rfl ?_
          exact ih _ _ hF _ _ _ (lv_sub hl [2, 3, 0] rfl) hP hS
        · have hF := (if_neg hc).symm.trans hF
          exact hx34 _ _ _ hF _ _ _ (lv_sub hl [2, 3, 0] rfl) hP hS
  refine lv_iload_n hx hb dX9_babel_0 rfl (lv_at hl 1 rfl) ?_
  refine lv_iconst (v := (2 : Int32)) hx hb dX9_babel_1 ic_2 ?_
  obtain ⟨q5, hq5, hF⟩ := bd_ok hF
  refine xX9_in Z hP hS hq5 wd_7_7 hl.1 (Nat.le_of_ble_eq_true rfl) ⟨Nat.le_of_ble_eq_true rfl, Nat.le_of_ble_eq_true rfl⟩ dX9_babel_2 (fun H locs hP hS => ?_)
  refine lv_if_ne (tgt := 11) hx hb dX9_babel_5 rfl (fun hc => ?_) (fun hc => ?_)
  · have hF := (if_neg hc).symm.trans hF
    refine lv_aload_n hx hb dX9_babel_11 rfl (lv_at hl 0 rfl) ?_
    obtain ⟨q6, hq6, hF⟩ := bd_ok hF
    refine xX9_refresh Z hP hS hq6 wd_20_10 hl.1 (Nat.le_of_ble_eq_true rfl) ⟨Nat.le_of_ble_eq_true rfl, Nat.le_of_ble_eq_true rfl⟩ dX9_babel_12 (fun H locs hP hS => ?_)
    refine lv_iconst (v := (0 : Int32)) hx hb dX9_babel_15 ic_0 ?_
    refine lv_istore_n (lv' := [(2, .int (0 : Int32)), (0, .ref (g.1 0)), (1, .int v1)]) hx hb dX9_babel_16 rfl hl (Nat.le_of_ble_eq_true rfl) rfl (fun ls hl => ?_)
    exact (hL17 _ hb34 FU) _ _ hF _ _ _ (lv_sub hl [1, 2, 0] rfl) hP hS
  · have hF := (if_pos hc).symm.trans hF
    refine lv_bipush (v := (-2 : Int32)) hx hb dX9_babel_8 bp_m2 ?_
    exact ret_IWC Z hr hlk hP hS hF dX9_babel_10
theorem xX9_babel {p : Program} {l : Launch} {e : Env} {R : Room} {s : State} {m : MethodId} {args : Array Value} {below : List Frame} {meth : Method} {c : Code} {H : Heap} {locs : List Loc} {Q : State → Prop} {cc : ByteArray} {nL : Nat} {own : String} {g : GG} {pc index : Nat} {ls : Array Slot} {rest : List Value} {mc mm : Mem} (Z : ZZ p s m args c cc nL own g) (hP : va_P g.2.2.1 vwCl (wL g mc mm) H) (hS : va_S (AA g s.heap.size) s.heap H locs) {v1 : Int32} {q : Int32 × Mem} (hq : F9_babel v1 mc = some q) (hlk : Cond.methodLink own index yX9_babel ∈ wsL_law) (hsz : ls.size = nL) (hro : (rest.map fun v => v.category).sum ≤ 8) (hR : 3 + 1 ≤ R.frames ∧ 8 + (4 + 11) + 77 ≤ R.locals) (hdg : decode cc pc = .ok (.invokevirtual index, 3)) (kk : ∀ (H : Heap) (locs : List Loc), va_P g.2.2.1 vwCl (wL g q.2 mm) H → va_S (AA g s.heap.size) s.heap H locs → W p l e R s m args below meth c H locs 0 0 Q (F0 m (pc + 3) ls (.int q.1 :: rest))) : W p l e R s m args below meth c H locs 0 0 Q (F0 m pc ls (.int v1 :: .ref (g.1 0) :: rest)) :=
  x_VI Z hP hS (kX9_babel l g v1 mc mm q hq) (isO_w ck_0) (ci := 9) (by decide) rfl rfl mf_X9_babel mv_X9_babel hlk rfl rfl hsz hro hR hdg kk
theorem dX9_tell_0 : decode cX9_tell 0 = .ok (.iload_n 1, 1) := by decide +kernel
theorem dX9_tell_1 : decode cX9_tell 1 = .ok (.aload_n 0, 1) := by decide +kernel
theorem dX9_tell_2 : decode cX9_tell 2 = .ok (.getfield 28, 3) := by decide +kernel
theorem dX9_tell_5 : decode cX9_tell 5 = .ok (.getfield 134, 3) := by decide +kernel
theorem dX9_tell_8 : decode cX9_tell 8 = .ok (.invokestatic 101, 3) := by decide +kernel
theorem dX9_tell_11 : decode cX9_tell 11 = .ok (.ifCond .eq 20, 3) := by decide +kernel
theorem dX9_tell_14 : decode cX9_tell 14 = .ok (.iload_n 2, 1) := by decide +kernel
theorem dX9_tell_15 : decode cX9_tell 15 = .ok (.bipush 8, 2) := by decide +kernel
theorem dX9_tell_17 : decode cX9_tell 17 = .ok (.invokestatic 101, 3) := by decide +kernel
theorem dX9_tell_20 : decode cX9_tell 20 = .ok (.ifCond .eq 11, 3) := by decide +kernel
theorem dX9_tell_23 : decode cX9_tell 23 = .ok (.iload_n 3, 1) := by decide +kernel
theorem dX9_tell_24 : decode cX9_tell 24 = .ok (.iconst 2, 1) := by decide +kernel
theorem dX9_tell_25 : decode cX9_tell 25 = .ok (.invokestatic 101, 3) := by decide +kernel
theorem dX9_tell_28 : decode cX9_tell 28 = .ok (.ifCond .ne 6, 3) := by decide +kernel
theorem dX9_tell_31 : decode cX9_tell 31 = .ok (.bipush (-2), 2) := by decide +kernel
theorem dX9_tell_33 : decode cX9_tell 33 = .ok (.ireturn, 1) := by decide +kernel
theorem dX9_tell_34 : decode cX9_tell 34 = .ok (.aload_n 0, 1) := by decide +kernel
theorem dX9_tell_35 : decode cX9_tell 35 = .ok (.invokevirtual 173, 3) := by decide +kernel
theorem dX9_tell_38 : decode cX9_tell 38 = .ok (.iconst (-1), 1) := by decide +kernel
theorem dX9_tell_39 : decode cX9_tell 39 = .ok (.istore 4, 2) := by decide +kernel
theorem dX9_tell_41 : decode cX9_tell 41 = .ok (.iconst (-1), 1) := by decide +kernel
theorem dX9_tell_42 : decode cX9_tell 42 = .ok (.istore 5, 2) := by decide +kernel
theorem dX9_tell_44 : decode cX9_tell 44 = .ok (.iconst 0, 1) := by decide +kernel
theorem dX9_tell_45 : decode cX9_tell 45 = .ok (.istore 6, 2) := by decide +kernel
theorem dX9_tell_47 : decode cX9_tell 47 = .ok (.iload 6, 2) := by decide +kernel
theorem dX9_tell_49 : decode cX9_tell 49 = .ok (.aload_n 0, 1) := by decide +kernel
theorem dX9_tell_50 : decode cX9_tell 50 = .ok (.getfield 21, 3) := by decide +kernel
theorem dX9_tell_53 : decode cX9_tell 53 = .ok (.getfield 119, 3) := by decide +kernel
theorem dX9_tell_56 : decode cX9_tell 56 = .ok (.if_icmp .ge 77, 3) := by decide +kernel
theorem dX9_tell_59 : decode cX9_tell 59 = .ok (.aload_n 0, 1) := by decide +kernel
theorem dX9_tell_60 : decode cX9_tell 60 = .ok (.getfield 80, 3) := by decide +kernel
theorem dX9_tell_63 : decode cX9_tell 63 = .ok (.aload_n 0, 1) := by decide +kernel
theorem dX9_tell_64 : decode cX9_tell 64 = .ok (.getfield 21, 3) := by decide +kernel
theorem dX9_tell_67 : decode cX9_tell 67 = .ok (.aload_n 0, 1) := by decide +kernel
theorem dX9_tell_68 : decode cX9_tell 68 = .ok (.getfield 56, 3) := by decide +kernel
theorem dX9_tell_71 : decode cX9_tell 71 = .ok (.aload_n 0, 1) := by decide +kernel
theorem dX9_tell_72 : decode cX9_tell 72 = .ok (.getfield 28, 3) := by decide +kernel
theorem dX9_tell_75 : decode cX9_tell 75 = .ok (.iload_n 1, 1) := by decide +kernel
theorem dX9_tell_76 : decode cX9_tell 76 = .ok (.iload 6, 2) := by decide +kernel
theorem dX9_tell_78 : decode cX9_tell 78 = .ok (.aload_n 0, 1) := by decide +kernel
theorem dX9_tell_79 : decode cX9_tell 79 = .ok (.getfield 28, 3) := by decide +kernel
theorem dX9_tell_82 : decode cX9_tell 82 = .ok (.getfield 141, 3) := by decide +kernel
theorem dX9_tell_85 : decode cX9_tell 85 = .ok (.iload_n 1, 1) := by decide +kernel
theorem dX9_tell_86 : decode cX9_tell 86 = .ok (.iaload, 1) := by decide +kernel
theorem dX9_tell_87 : decode cX9_tell 87 = .ok (.invokevirtual 198, 3) := by decide +kernel
theorem dX9_tell_90 : decode cX9_tell 90 = .ok (.aload_n 0, 1) := by decide +kernel
theorem dX9_tell_91 : decode cX9_tell 91 = .ok (.getfield 80, 3) := by decide +kernel
theorem dX9_tell_94 : decode cX9_tell 94 = .ok (.iload_n 2, 1) := by decide +kernel
theorem dX9_tell_95 : decode cX9_tell 95 = .ok (.invokevirtual 189, 3) := by decide +kernel
theorem dX9_tell_98 : decode cX9_tell 98 = .ok (.istore 7, 2) := by decide +kernel
theorem dX9_tell_100 : decode cX9_tell 100 = .ok (.iload 7, 2) := by decide +kernel
theorem dX9_tell_102 : decode cX9_tell 102 = .ok (.iconst (-1), 1) := by decide +kernel
theorem dX9_tell_103 : decode cX9_tell 103 = .ok (.if_icmp .eq 24, 3) := by decide +kernel
theorem dX9_tell_106 : decode cX9_tell 106 = .ok (.iload 5, 2) := by decide +kernel
theorem dX9_tell_108 : decode cX9_tell 108 = .ok (.iconst (-1), 1) := by decide +kernel
theorem dX9_tell_109 : decode cX9_tell 109 = .ok (.if_icmp .eq 10, 3) := by decide +kernel
theorem dX9_tell_112 : decode cX9_tell 112 = .ok (.iload 7, 2) := by decide +kernel
theorem dX9_tell_114 : decode cX9_tell 114 = .ok (.iload 5, 2) := by decide +kernel
theorem dX9_tell_116 : decode cX9_tell 116 = .ok (.if_icmp .ge 11, 3) := by decide +kernel
theorem dX9_tell_119 : decode cX9_tell 119 = .ok (.iload 6, 2) := by decide +kernel
theorem dX9_tell_121 : decode cX9_tell 121 = .ok (.istore 4, 2) := by decide +kernel
theorem dX9_tell_123 : decode cX9_tell 123 = .ok (.iload 7, 2) := by decide +kernel
theorem dX9_tell_125 : decode cX9_tell 125 = .ok (.istore 5, 2) := by decide +kernel
theorem dX9_tell_127 : decode cX9_tell 127 = .ok (.iinc 6 1, 3) := by decide +kernel
theorem dX9_tell_130 : decode cX9_tell 130 = .ok (.goto (-83), 3) := by decide +kernel
theorem dX9_tell_133 : decode cX9_tell 133 = .ok (.iload_n 3, 1) := by decide +kernel
theorem dX9_tell_134 : decode cX9_tell 134 = .ok (.ifCond .ne 8, 3) := by decide +kernel
theorem dX9_tell_137 : decode cX9_tell 137 = .ok (.iload 4, 2) := by decide +kernel
theorem dX9_tell_139 : decode cX9_tell 139 = .ok (.goto 5, 3) := by decide +kernel
theorem dX9_tell_142 : decode cX9_tell 142 = .ok (.iload 5, 2) := by decide +kernel
theorem dX9_tell_144 : decode cX9_tell 144 = .ok (.ireturn, 1) := by decide +kernel
noncomputable def F9_tell_b133 (v1 : Int32) (v2 : Int32) (v3 : Int32) (a4 : Int32) (a5 : Int32) (M : Mem) : Option (Int32 × Mem) :=
  (if v3 = (0 : Int32) then some (a4, M) else some (a5, M))
noncomputable def F9_tell_b127 (kh : Int32 → Int32 → Int32 → Mem → Option (Int32 × Mem)) (kx133 : Int32 → Int32 → Mem → Option (Int32 × Mem)) (v1 : Int32) (v2 : Int32) (v3 : Int32) (a4 : Int32) (a5 : Int32) (a6 : Int32) (M : Mem) : Option (Int32 × Mem) :=
  kh a4 a5 (a6 + (1 : Int32)) M
noncomputable def F9_tell_b119 (kh : Int32 → Int32 → Int32 → Mem → Option (Int32 × Mem)) (kx133 : Int32 → Int32 → Mem → Option (Int32 × Mem)) (v1 : Int32) (v2 : Int32) (v3 : Int32) (a6 : Int32) (a7 : Int32) (M : Mem) : Option (Int32 × Mem) :=
  (F9_tell_b127 kh kx133 v1 v2 v3) a6 a7 a6 M
noncomputable def F9_tell_p47 (kh : Int32 → Int32 → Int32 → Mem → Option (Int32 × Mem)) (kx133 : Int32 → Int32 → Mem → Option (Int32 × Mem)) (v1 : Int32) (v2 : Int32) (v3 : Int32) (a4 : Int32) (a5 : Int32) (a6 : Int32) (M : Mem) : Option (Int32 × Mem) :=
  (if (M 6 4) ≤ a6 then kx133 a4 a5 M else (ck v1 8 ((F4_follow 92 6 34 11 v1 a6 (M 14 v1.toNatClampNeg) M).bind (fun q9 => ((F4_firstHeard 92 v2 q9).bind (fun q10 => (if q10 = (-1 : Int32) then (F9_tell_b127 kh kx133 v1 v2 v3) a4 a5 a6 q9 else (if a5 = (-1 : Int32) then (F9_tell_b119 kh kx133 v1 v2 v3) a6 q10 q9 else (if a5 ≤ q10 then (F9_tell_b127 kh kx133 v1 v2 v3) a4 a5 a6 q9 else (F9_tell_b119 kh kx133 v1 v2 v3) a6 q10 q9)))))))))
noncomputable def F9_tell_h47 (kx133 : Int32 → Int32 → Mem → Option (Int32 × Mem)) (v1 : Int32) (v2 : Int32) (v3 : Int32) : Nat → Int32 → Int32 → Int32 → Mem → Option (Int32 × Mem)
  | 0, _, _, _, _ => none
  | n + 1, a4, a5, a6, M => F9_tell_p47 (F9_tell_h47 kx133 v1 v2 v3 n) kx133 v1 v2 v3 a4 a5 a6 M
noncomputable def F9_tell (v1 : Int32) (v2 : Int32) (v3 : Int32) (mc : Mem) : Option (Int32 × Mem) :=
  ((F9_in v1 (mc 11 5)).bind (fun q11 => (if q11 = (0 : Int32) then some ((-2 : Int32), mc) else ((F9_in v2 (8 : Int32)).bind (fun q12 => (if q12 = (0 : Int32) then some ((-2 : Int32), mc) else ((F9_in v3 (2 : Int32)).bind (fun q13 => (if q13 = (0 : Int32) then some ((-2 : Int32), mc) else ((F9_refresh mc).bind (fun q14 => ((F9_tell_h47 (F9_tell_b133 v1 v2 v3) v1 v2 v3 FU) (-1 : Int32) (-1 : Int32) (0 : Int32) q14))))))))))))
set_option maxHeartbeats 4000000 in
set_option maxRecDepth 100000 in
theorem kX9_tell (l : Launch) (g : GG) (v1 : Int32) (v2 : Int32) (v3 : Int32) (mc mm : Mem) (q : Int32 × Mem) (hF : F9_tell v1 v2 v3 mc = some q) : KI l yX9_tell cX9_tell 8 .int 3 77 g [.ref (g.1 0), .int v1, .int v2, .int v3] mc mm q.1 (q.2, mm) := by
  intro sz
  refine x_start (Qc := fun z => QI g z q.1 (q.2, mm)) (by decide +kernel) (Nat.le_of_ble_eq_true rfl) ?_ sz
  intro p e s m args below meth c ls Z hr hlk hP hl
  have hx := Z.1.1
  have hb := Z.1.2.1
  have hown := Z.1.2.2.2.1
  have hts := Z.1.2.2.2.2
  have hS : va_S (AA g s.heap.size) s.heap s.heap [] := va_S.rf
  have hl : lv_has ls 8 [(0, .ref (g.1 0)), (1, .int v1), (2, .int v2), (3, .int v3)] := hl
  unfold F9_tell at hF
  have hb133 : ∀ (a4 : Int32) (a5 : Int32) (M : Mem), F9_tell_b133 v1 v2 v3 a4 a5 M = some q → ∀ (H : Heap) (locs : List Loc) (ls : Array Slot), lv_has ls 8 [(3, .int v3), (4, .int a4), (5, .int a5)] → va_P g.2.2.1 vwCl (wL g M mm) H → va_S (AA g s.heap.size) s.heap H locs → W p l e { frames := 3, cells := 0, slots := 0, locals := 77 } s m args below meth c H locs 0 0 (MQ below (QI g s.heap.size q.1 (q.2, mm)) args s 0 0 (AA g s.heap.size)) (F0 m 133 ls []) := by
    intro a4 a5 M hF H locs ls hl hP hS
    unfold F9_tell_b133 at hF
    refine lv_iload_n hx hb dX9_tell_133 rfl (lv_at hl 0 rfl) ?_
    refine lv_if_ne (tgt := 142) hx hb dX9_tell_134 rfl (fun hc => ?_) (fun hc => ?_)
    · have hF := (if_neg hc).symm.trans hF
      refine lv_iload hx hb dX9_tell_142 (lv_at hl 2 rfl) ?_
      exact ret_IWC Z hr hlk hP hS hF dX9_tell_144
    · have hF := (if_pos hc).symm.trans hF
      refine lv_iload hx hb dX9_tell_137 (lv_at hl 1 rfl) ?_
      refine lv_goto (tgt := 144) hx hb dX9_tell_139 rfl ?_
      exact ret_IWC Z hr hlk hP hS hF dX9_tell_144
  have hL47 : ∀ (kx133 : Int32 → Int32 → Mem → Option (Int32 × Mem)), (∀ (a4 : Int32) (a5 : Int32) (M : Mem), kx133 a4 a5 M = some q → ∀ (H : Heap) (locs : List Loc) (ls : Array Slot), lv_has ls 8 [(3, .int v3), (4, .int a4), (5, .int a5)] → va_P g.2.2.1 vwCl (wL g M mm) H → va_S (AA g s.heap.size) s.heap H locs → W p l e { frames := 3, cells := 0, slots := 0, locals := 77 } s m args below meth c H locs 0 0 (MQ below (QI g s.heap.size q.1 (q.2, mm)) args s 0 0 (AA g s.heap.size)) (F0 m 133 ls [])) → ∀ n : Nat, ∀ (a4 : Int32) (a5 : Int32) (a6 : Int32) (M : Mem), F9_tell_h47 kx133 v1 v2 v3 n a4 a5 a6 M = some q → ∀ (H : Heap) (locs : List Loc) (ls : Array Slot), lv_has ls 8 [(0, .ref (g.1 0)), (1, .int v1), (2, .int v2), (3, .int v3), (4, .int a4), (5, .int a5), (6, .int a6)] → va_P g.2.2.1 vwCl (wL g M mm) H → va_S (AA g s.heap.size) s.heap H locs → W p l e { frames := 3, cells := 0, slots := 0, locals := 77 } s m args below meth c H locs 0 0 (MQ below (QI g s.heap.size q.1 (q.2, mm)) args s 0 0 (AA g s.heap.size)) (F0 m 47 ls []) := by
    intro kx133 hx133 n
    induction n with
    | zero => intro a4 a5 a6 M hF H locs ls hl hP hS; exact absurd hF (fun z => nomatch (show (none : Option _) = some q from z))
    | succ n ih =>
      generalize hkh : F9_tell_h47 kx133 v1 v2 v3 n = kh at ih
      have hb127 : ∀ (a4 : Int32) (a5 : Int32) (a6 : Int32) (M : Mem), F9_tell_b127 kh kx133 v1 v2 v3 a4 a5 a6 M = some q → ∀ (H : Heap) (locs : List Loc) (ls : Array Slot), lv_has ls 8 [(0, .ref (g.1 0)), (1, .int v1), (2, .int v2), (3, .int v3), (4, .int a4), (5, .int a5), (6, .int a6)] → va_P g.2.2.1 vwCl (wL g M mm) H → va_S (AA g s.heap.size) s.heap H locs → W p l e { frames := 3, cells := 0, slots := 0, locals := 77 } s m args below meth c H locs 0 0 (MQ below (QI g s.heap.size q.1 (q.2, mm)) args s 0 0 (AA g s.heap.size)) (F0 m 127 ls []) := by
        intro a4 a5 a6 M hF H locs ls hl hP hS
        unfold F9_tell_b127 at hF
        refine lv_iinc (lv' := [(6, .int (a6 + (1 : Int32))), (0, .ref (g.1 0)), (1, .int v1), (2, .int v2), (3, .int v3), (4, .int a4), (5, .int a5)]) (v := (a6 + (1 : Int32))) hx hb dX9_tell_127 hl (k := 6) rfl (io_1 _) (Nat.le_of_ble_eq_true rfl) rfl (fun ls hl => ?_)
        refine lv_goto (tgt := 47) hx hb dX9_tell_130 rfl ?_
        exact ih _ _ _ _ hF _ _ _ (lv_sub hl [1, 2, 3, 4, 5, 6, 0] rfl) hP hS
      have hb119 : ∀ (a6 : Int32) (a7 : Int32) (M : Mem), F9_tell_b119 kh kx133 v1 v2 v3 a6 a7 M = some q → ∀ (H : Heap) (locs : List Loc) (ls : Array Slot), lv_has ls 8 [(0, .ref (g.1 0)), (1, .int v1), (2, .int v2), (3, .int v3), (6, .int a6), (7, .int a7)] → va_P g.2.2.1 vwCl (wL g M mm) H → va_S (AA g s.heap.size) s.heap H locs → W p l e { frames := 3, cells := 0, slots := 0, locals := 77 } s m args below meth c H locs 0 0 (MQ below (QI g s.heap.size q.1 (q.2, mm)) args s 0 0 (AA g s.heap.size)) (F0 m 119 ls []) := by
        intro a6 a7 M hF H locs ls hl hP hS
        unfold F9_tell_b119 at hF
        refine lv_iload hx hb dX9_tell_119 (lv_at hl 4 rfl) ?_
        refine lv_istore (lv' := [(4, .int a6), (0, .ref (g.1 0)), (1, .int v1), (2, .int v2), (3, .int v3), (6, .int a6), (7, .int a7)]) hx hb dX9_tell_121 hl (Nat.le_of_ble_eq_true rfl) rfl (fun ls hl => ?_)
        refine lv_iload hx hb dX9_tell_123 (lv_at hl 6 rfl) ?_
        refine lv_istore (lv' := [(5, .int a7), (4, .int a6), (0, .ref (g.1 0)), (1, .int v1), (2, .int v2), (3, .int v3), (6, .int a6), (7, .int a7)]) hx hb dX9_tell_125 hl (Nat.le_of_ble_eq_true rfl) rfl (fun ls hl => ?_)
        exact hb127 _ _ _ _ hF _ _ _ (lv_sub hl [2, 3, 4, 5, 1, 0, 6] rfl) hP hS
      intro a4 a5 a6 M hF H locs ls hl hP hS
      have hF : F9_tell_p47 (F9_tell_h47 kx133 v1 v2 v3 n) kx133 v1 v2 v3 a4 a5 a6 M = some q := hF
      rw [hkh] at hF
      unfold F9_tell_p47 at hF
      refine lv_iload hx hb dX9_tell_47 (lv_at hl 6 rfl) ?_
      refine lv_aload_n hx hb dX9_tell_49 rfl (lv_at hl 0 rfl) ?_
      refine gf9_1 Z hP wd_1_19 dX9_tell_50 ?_
      refine gf8_4N Z hP ck_6 nf_2 dX9_tell_53 ?_
      refine lv_icmp_ge (tgt := 133) hx hb dX9_tell_56 rfl (fun hc => ?_) (fun hc => ?_)
      · have hF := (if_pos hc).symm.trans hF
        exact hx133 _ _ _ hF _ _ _ (lv_sub hl [3, 4, 5] rfl) hP hS
      · have hF := (if_neg hc).symm.trans hF
        refine lv_aload_n hx hb dX9_tell_59 rfl (lv_at hl 0 rfl) ?_
        refine gf9_13 Z hP wd_3_0 dX9_tell_60 ?_
        refine lv_aload_n hx hb dX9_tell_63 rfl (lv_at hl 0 rfl) ?_
        refine gf9_1 Z hP wd_1_19 dX9_tell_64 ?_
        refine lv_aload_n hx hb dX9_tell_67 rfl (lv_at hl 0 rfl) ?_
        refine gf9_7 Z hP wd_2_15 dX9_tell_68 ?_
        refine lv_aload_n hx hb dX9_tell_71 rfl (lv_at hl 0 rfl) ?_
        refine gf9_2 Z hP wd_1_23 dX9_tell_72 ?_
        refine lv_iload_n hx hb dX9_tell_75 rfl (lv_at hl 1 rfl) ?_
        refine lv_iload hx hb dX9_tell_76 (lv_at hl 6 rfl) ?_
        refine lv_aload_n hx hb dX9_tell_78 rfl (lv_at hl 0 rfl) ?_
        refine gf9_2 Z hP wd_1_23 dX9_tell_79 ?_
        refine gf5_2N Z hP ck_11 nf_10 dX9_tell_82 ?_
        refine lv_iload_n hx hb dX9_tell_85 rfl (lv_at hl 1 rfl) ?_
        obtain ⟨hi8, hF⟩ := ck_ok hF
        refine ra_ld Z hP (ia_5_2 ck_11) hi8 dX9_tell_86 ?_
        obtain ⟨q9, hq9, hF⟩ := bd_ok hF
        refine xX4_follow Z hP hS ck_92 ck_6 ck_34 ck_11 hq9 wd_20_22 hl.1 (Nat.le_of_ble_eq_true rfl) ⟨Nat.le_of_ble_eq_true rfl, Nat.le_of_ble_eq_true rfl⟩ dX9_tell_87 (fun H locs hP hS => ?_)
        refine lv_aload_n hx hb dX9_tell_90 rfl (lv_at hl 0 rfl) ?_
        refine gf9_13 Z hP wd_3_0 dX9_tell_91 ?_
        refine lv_iload_n hx hb dX9_tell_94 rfl (lv_at hl 2 rfl) ?_
        obtain ⟨q10, hq10, hF⟩ := bd_ok hF
        refine xX4_firstHeard Z hP hS ck_92 hq10 wd_25_18 hl.1 (Nat.le_of_ble_eq_true rfl) ⟨Nat.le_of_ble_eq_true rfl, Nat.le_of_ble_eq_true rfl⟩ dX9_tell_95 (fun H locs hP hS => ?_)
        refine lv_istore (lv' := [(7, .int q10), (0, .ref (g.1 0)), (1, .int v1), (2, .int v2), (3, .int v3), (4, .int a4), (5, .int a5), (6, .int a6)]) hx hb dX9_tell_98 hl (Nat.le_of_ble_eq_true rfl) rfl (fun ls hl => ?_)
        refine lv_iload hx hb dX9_tell_100 (lv_at hl 0 rfl) ?_
        refine lv_iconst (v := (-1 : Int32)) hx hb dX9_tell_102 ic_m1 ?_
        refine lv_icmp_eq (tgt := 127) hx hb dX9_tell_103 rfl (fun hc => ?_) (fun hc => ?_)
        · have hF := (if_pos hc).symm.trans hF
          exact hb127 _ _ _ _ hF _ _ _ (lv_sub hl [1, 2, 3, 4, 5, 6, 7] rfl) hP hS
        · have hF := (if_neg hc).symm.trans hF
          refine lv_iload hx hb dX9_tell_106 (lv_at hl 6 rfl) ?_
          refine lv_iconst (v := (-1 : Int32)) hx hb dX9_tell_108 ic_m1 ?_
          refine lv_icmp_eq (tgt := 119) hx hb dX9_tell_109 rfl (fun hc => ?_) (fun hc => ?_)
          · have hF := (if_pos hc).symm.trans hF
            exact hb119 _ _ _ hF _ _ _ (lv_sub hl [1, 2, 3, 4, 7, 0] rfl) hP hS
          · have hF := (if_neg hc).symm.trans hF
            refine lv_iload hx hb dX9_tell_112 (lv_at hl 0 rfl) ?_
            refine lv_iload hx hb dX9_tell_114 (lv_at hl 6 rfl) ?_
            refine lv_icmp_ge (tgt := 127) hx hb dX9_tell_116 rfl (fun hc => ?_) (fun hc => ?_)
            · have hF := (if_pos hc).symm.trans hF
              exact hb127 _ _ _ _ hF _ _ _ (lv_sub hl [1, 2, 3, 4, 5, 6, 7] rfl) hP hS
            · have hF := (if_neg hc).symm.trans hF
              exact hb119 _ _ _ hF _ _ _ (lv_sub hl [1, 2, 3, 4, 7, 0] rfl) hP hS
  refine lv_iload_n hx hb dX9_tell_0 rfl (lv_at hl 1 rfl) ?_
  refine lv_aload_n hx hb dX9_tell_1 rfl (lv_at hl 0 rfl) ?_
  refine gf9_2 Z hP wd_1_23 dX9_tell_2 ?_
  refine gf5_5N Z hP ck_11 nf_7 dX9_tell_5 ?_
  obtain ⟨q11, hq11, hF⟩ := bd_ok hF
  refine xX9_in Z hP hS hq11 wd_7_7 hl.1 (Nat.le_of_ble_eq_true rfl) ⟨Nat.le_of_ble_eq_true rfl, Nat.le_of_ble_eq_true rfl⟩ dX9_tell_8 (fun H locs hP hS => ?_)
  refine lv_if_eq (tgt := 31) hx hb dX9_tell_11 rfl (fun hc => ?_) (fun hc => ?_)
  · have hF := (if_pos hc).symm.trans hF
    refine lv_bipush (v := (-2 : Int32)) hx hb dX9_tell_31 bp_m2 ?_
    exact ret_IWC Z hr hlk hP hS hF dX9_tell_33
  · have hF := (if_neg hc).symm.trans hF
    refine lv_iload_n hx hb dX9_tell_14 rfl (lv_at hl 2 rfl) ?_
    refine lv_bipush (v := (8 : Int32)) hx hb dX9_tell_15 bp_8 ?_
    obtain ⟨q12, hq12, hF⟩ := bd_ok hF
    refine xX9_in Z hP hS hq12 wd_7_7 hl.1 (Nat.le_of_ble_eq_true rfl) ⟨Nat.le_of_ble_eq_true rfl, Nat.le_of_ble_eq_true rfl⟩ dX9_tell_17 (fun H locs hP hS => ?_)
    refine lv_if_eq (tgt := 31) hx hb dX9_tell_20 rfl (fun hc => ?_) (fun hc => ?_)
    · have hF := (if_pos hc).symm.trans hF
      refine lv_bipush (v := (-2 : Int32)) hx hb dX9_tell_31 bp_m2 ?_
      exact ret_IWC Z hr hlk hP hS hF dX9_tell_33
    · have hF := (if_neg hc).symm.trans hF
      refine lv_iload_n hx hb dX9_tell_23 rfl (lv_at hl 3 rfl) ?_
      refine lv_iconst (v := (2 : Int32)) hx hb dX9_tell_24 ic_2 ?_
      obtain ⟨q13, hq13, hF⟩ := bd_ok hF
      refine xX9_in Z hP hS hq13 wd_7_7 hl.1 (Nat.le_of_ble_eq_true rfl) ⟨Nat.le_of_ble_eq_true rfl, Nat.le_of_ble_eq_true rfl⟩ dX9_tell_25 (fun H locs hP hS => ?_)
      refine lv_if_ne (tgt := 34) hx hb dX9_tell_28 rfl (fun hc => ?_) (fun hc => ?_)
      · have hF := (if_neg hc).symm.trans hF
        refine lv_aload_n hx hb dX9_tell_34 rfl (lv_at hl 0 rfl) ?_
        obtain ⟨q14, hq14, hF⟩ := bd_ok hF
        refine xX9_refresh Z hP hS hq14 wd_20_10 hl.1 (Nat.le_of_ble_eq_true rfl) ⟨Nat.le_of_ble_eq_true rfl, Nat.le_of_ble_eq_true rfl⟩ dX9_tell_35 (fun H locs hP hS => ?_)
        refine lv_iconst (v := (-1 : Int32)) hx hb dX9_tell_38 ic_m1 ?_
        refine lv_istore (lv' := [(4, .int (-1 : Int32)), (0, .ref (g.1 0)), (1, .int v1), (2, .int v2), (3, .int v3)]) hx hb dX9_tell_39 hl (Nat.le_of_ble_eq_true rfl) rfl (fun ls hl => ?_)
        refine lv_iconst (v := (-1 : Int32)) hx hb dX9_tell_41 ic_m1 ?_
        refine lv_istore (lv' := [(5, .int (-1 : Int32)), (4, .int (-1 : Int32)), (0, .ref (g.1 0)), (1, .int v1), (2, .int v2), (3, .int v3)]) hx hb dX9_tell_42 hl (Nat.le_of_ble_eq_true rfl) rfl (fun ls hl => ?_)
        refine lv_iconst (v := (0 : Int32)) hx hb dX9_tell_44 ic_0 ?_
        refine lv_istore (lv' := [(6, .int (0 : Int32)), (5, .int (-1 : Int32)), (4, .int (-1 : Int32)), (0, .ref (g.1 0)), (1, .int v1), (2, .int v2), (3, .int v3)]) hx hb dX9_tell_45 hl (Nat.le_of_ble_eq_true rfl) rfl (fun ls hl => ?_)
        exact (hL47 _ hb133 FU) _ _ _ _ hF _ _ _ (lv_sub hl [3, 4, 5, 6, 2, 1, 0] rfl) hP hS
      · have hF := (if_pos hc).symm.trans hF
        refine lv_bipush (v := (-2 : Int32)) hx hb dX9_tell_31 bp_m2 ?_
        exact ret_IWC Z hr hlk hP hS hF dX9_tell_33
theorem xX9_tell {p : Program} {l : Launch} {e : Env} {R : Room} {s : State} {m : MethodId} {args : Array Value} {below : List Frame} {meth : Method} {c : Code} {H : Heap} {locs : List Loc} {Q : State → Prop} {cc : ByteArray} {nL : Nat} {own : String} {g : GG} {pc index : Nat} {ls : Array Slot} {rest : List Value} {mc mm : Mem} (Z : ZZ p s m args c cc nL own g) (hP : va_P g.2.2.1 vwCl (wL g mc mm) H) (hS : va_S (AA g s.heap.size) s.heap H locs) {v1 : Int32} {v2 : Int32} {v3 : Int32} {q : Int32 × Mem} (hq : F9_tell v1 v2 v3 mc = some q) (hlk : Cond.methodLink own index yX9_tell ∈ wsL_law) (hsz : ls.size = nL) (hro : (rest.map fun v => v.category).sum ≤ 8) (hR : 3 + 1 ≤ R.frames ∧ 8 + (8 + 11) + 77 ≤ R.locals) (hdg : decode cc pc = .ok (.invokevirtual index, 3)) (kk : ∀ (H : Heap) (locs : List Loc), va_P g.2.2.1 vwCl (wL g q.2 mm) H → va_S (AA g s.heap.size) s.heap H locs → W p l e R s m args below meth c H locs 0 0 Q (F0 m (pc + 3) ls (.int q.1 :: rest))) : W p l e R s m args below meth c H locs 0 0 Q (F0 m pc ls (.int v3 :: .int v2 :: .int v1 :: .ref (g.1 0) :: rest)) :=
  x_VI Z hP hS (kX9_tell l g v1 v2 v3 mc mm q hq) (isO_w ck_0) (ci := 9) (by decide) rfl rfl mf_X9_tell mv_X9_tell hlk rfl rfl hsz hro hR hdg kk

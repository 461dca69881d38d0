theorem dX9_get_0 : decode cX9_get 0 = .ok (.iload_n 1, 1) := by decide +kernel
theorem dX9_get_1 : decode cX9_get 1 = .ok (.iconst 4, 1) := by decide +kernel
theorem dX9_get_2 : decode cX9_get 2 = .ok (.invokestatic 101, 3) := by decide +kernel
theorem dX9_get_5 : decode cX9_get 5 = .ok (.ifCond .eq 11, 3) := by decide +kernel
theorem dX9_get_8 : decode cX9_get 8 = .ok (.iload_n 2, 1) := by decide +kernel
theorem dX9_get_9 : decode cX9_get 9 = .ok (.iconst 3, 1) := by decide +kernel
theorem dX9_get_10 : decode cX9_get 10 = .ok (.invokestatic 101, 3) := by decide +kernel
theorem dX9_get_13 : decode cX9_get 13 = .ok (.ifCond .ne 7, 3) := by decide +kernel
theorem dX9_get_16 : decode cX9_get 16 = .ok (.ldc_w 285, 3) := by decide +kernel
theorem dX9_get_19 : decode cX9_get 19 = .ok (.ireturn, 1) := by decide +kernel
theorem dX9_get_20 : decode cX9_get 20 = .ok (.aload_n 0, 1) := by decide +kernel
theorem dX9_get_21 : decode cX9_get 21 = .ok (.getfield 49, 3) := by decide +kernel
theorem dX9_get_24 : decode cX9_get 24 = .ok (.iload_n 1, 1) := by decide +kernel
theorem dX9_get_25 : decode cX9_get 25 = .ok (.aaload, 1) := by decide +kernel
theorem dX9_get_26 : decode cX9_get 26 = .ok (.iload_n 2, 1) := by decide +kernel
theorem dX9_get_27 : decode cX9_get 27 = .ok (.iload_n 3, 1) := by decide +kernel
theorem dX9_get_28 : decode cX9_get 28 = .ok (.invokestatic 278, 3) := by decide +kernel
theorem dX9_get_31 : decode cX9_get 31 = .ok (.istore 4, 2) := by decide +kernel
theorem dX9_get_33 : decode cX9_get 33 = .ok (.iload 4, 2) := by decide +kernel
theorem dX9_get_35 : decode cX9_get 35 = .ok (.ifCond .eq 14, 3) := by decide +kernel
theorem dX9_get_38 : decode cX9_get 38 = .ok (.aload_n 0, 1) := by decide +kernel
theorem dX9_get_39 : decode cX9_get 39 = .ok (.iload 4, 2) := by decide +kernel
theorem dX9_get_41 : decode cX9_get 41 = .ok (.invokevirtual 165, 3) := by decide +kernel
theorem dX9_get_44 : decode cX9_get 44 = .ok (.pop, 1) := by decide +kernel
theorem dX9_get_45 : decode cX9_get 45 = .ok (.ldc_w 285, 3) := by decide +kernel
theorem dX9_get_48 : decode cX9_get 48 = .ok (.ireturn, 1) := by decide +kernel
theorem dX9_get_49 : decode cX9_get 49 = .ok (.aload_n 0, 1) := by decide +kernel
theorem dX9_get_50 : decode cX9_get 50 = .ok (.getfield 49, 3) := by decide +kernel
theorem dX9_get_53 : decode cX9_get 53 = .ok (.iload_n 1, 1) := by decide +kernel
theorem dX9_get_54 : decode cX9_get 54 = .ok (.aaload, 1) := by decide +kernel
theorem dX9_get_55 : decode cX9_get 55 = .ok (.getfield 286, 3) := by decide +kernel
theorem dX9_get_58 : decode cX9_get 58 = .ok (.iload_n 3, 1) := by decide +kernel
theorem dX9_get_59 : decode cX9_get 59 = .ok (.iaload, 1) := by decide +kernel
theorem dX9_get_60 : decode cX9_get 60 = .ok (.ireturn, 1) := by decide +kernel
noncomputable def F9_get (v1 : Int32) (v2 : Int32) (v3 : Int32) (mc : Mem) : Option (Int32 × Mem) :=
  ((F9_in v1 (4 : Int32)).bind (fun q8 => (if q8 = (0 : Int32) then some ((-2147483648 : Int32), mc) else ((F9_in v2 (3 : Int32)).bind (fun q9 => (if q9 = (0 : Int32) then some ((-2147483648 : Int32), mc) else (ck v1 4 ((F9_itemFinding (26 + 2 * v1.toNatClampNeg) v2 v3 mc).bind (fun q11 => (if q11 = (0 : Int32) then (ck v1 4 (ck v3 60 (some ((mc ((26 + 2 * v1.toNatClampNeg) + 1) v3.toNatClampNeg), mc)))) else ((F9_finding q11 mc).bind (fun q14 => (some ((-2147483648 : Int32), q14.2))))))))))))))
set_option maxHeartbeats 4000000 in
set_option maxRecDepth 100000 in
theorem kX9_get (l : Launch) (g : GG) (v1 : Int32) (v2 : Int32) (v3 : Int32) (mc mm : Mem) (q : Int32 × Mem) (hF : F9_get v1 v2 v3 mc = some q) : KI l yX9_get cX9_get 5 .int 2 43 g [.ref (g.1 0), .int v1, .int v2, .int v3] mc mm q.1 (q.2, mm) := by
  intro sz
  refine x_start (Qc := fun z => QI g z q.1 (q.2, mm)) (by decide +kernel) (Nat.le_of_ble_eq_true rfl) ?_ sz
  intro p e s m args below meth c ls Z hr hlk hP hl
  have hx := Z.1.1
  have hb := Z.1.2.1
  have hown := Z.1.2.2.2.1
  have hts := Z.1.2.2.2.2
  have hS : va_S (AA g s.heap.size) s.heap s.heap [] := va_S.rf
  have hl : lv_has ls 5 [(0, .ref (g.1 0)), (1, .int v1), (2, .int v2), (3, .int v3)] := hl
  unfold F9_get at hF
  refine lv_iload_n hx hb dX9_get_0 rfl (lv_at hl 1 rfl) ?_
  refine lv_iconst (v := (4 : Int32)) hx hb dX9_get_1 ic_4 ?_
  obtain ⟨q8, hq8, hF⟩ := bd_ok hF
  refine xX9_in Z hP hS hq8 wd_7_7 hl.1 (Nat.le_of_ble_eq_true rfl) ⟨Nat.le_of_ble_eq_true rfl, Nat.le_of_ble_eq_true rfl⟩ dX9_get_2 (fun H locs hP hS => ?_)
  refine lv_if_eq (tgt := 16) hx hb dX9_get_5 rfl (fun hc => ?_) (fun hc => ?_)
  · have hF := (if_pos hc).symm.trans hF
    refine lv_ldcw (v := (-2147483648 : Int32)) hx hb hown (hts _ wd_41_7) dX9_get_16 ?_
    exact ret_IWC Z hr hlk hP hS hF dX9_get_19
  · have hF := (if_neg hc).symm.trans hF
    refine lv_iload_n hx hb dX9_get_8 rfl (lv_at hl 2 rfl) ?_
    refine lv_iconst (v := (3 : Int32)) hx hb dX9_get_9 ic_3 ?_
    obtain ⟨q9, hq9, hF⟩ := bd_ok hF
    refine xX9_in Z hP hS hq9 wd_7_7 hl.1 (Nat.le_of_ble_eq_true rfl) ⟨Nat.le_of_ble_eq_true rfl, Nat.le_of_ble_eq_true rfl⟩ dX9_get_10 (fun H locs hP hS => ?_)
    refine lv_if_ne (tgt := 20) hx hb dX9_get_13 rfl (fun hc => ?_) (fun hc => ?_)
    · have hF := (if_neg hc).symm.trans hF
      refine lv_aload_n hx hb dX9_get_20 rfl (lv_at hl 0 rfl) ?_
      refine gf9_5 Z hP wd_2_11 dX9_get_21 ?_
      refine lv_iload_n hx hb dX9_get_24 rfl (lv_at hl 1 rfl) ?_
      obtain ⟨hi10, hF⟩ := ck_ok hF
      refine rq_23 Z hP hi10 dX9_get_25 ?_
      refine lv_iload_n hx hb dX9_get_26 rfl (lv_at hl 2 rfl) ?_
      refine lv_iload_n hx hb dX9_get_27 rfl (lv_at hl 3 rfl) ?_
      obtain ⟨q11, hq11, hF⟩ := bd_ok hF
      refine xX9_itemFinding Z hP hS (ir_23 hi10) hq11 wd_40_9 hl.1 (Nat.le_of_ble_eq_true rfl) ⟨Nat.le_of_ble_eq_true rfl, Nat.le_of_ble_eq_true rfl⟩ dX9_get_28 (fun H locs hP hS => ?_)
      refine lv_istore (lv' := [(4, .int q11), (0, .ref (g.1 0)), (1, .int v1), (2, .int v2), (3, .int v3)]) hx hb dX9_get_31 hl (Nat.le_of_ble_eq_true rfl) rfl (fun ls hl => ?_)
      refine lv_iload hx hb dX9_get_33 (lv_at hl 0 rfl) ?_
      refine lv_if_eq (tgt := 49) hx hb dX9_get_35 rfl (fun hc => ?_) (fun hc => ?_)
      · have hF := (if_pos hc).symm.trans hF
        refine lv_aload_n hx hb dX9_get_49 rfl (lv_at hl 1 rfl) ?_
        refine gf9_5 Z hP wd_2_11 dX9_get_50 ?_
        refine lv_iload_n hx hb dX9_get_53 rfl (lv_at hl 2 rfl) ?_
        obtain ⟨hi12, hF⟩ := ck_ok hF
        refine rq_23 Z hP hi12 dX9_get_54 ?_
        refine gf6_0N Z hP (ir_23 hi12) nf_23 dX9_get_55 ?_
        refine lv_iload_n hx hb dX9_get_58 rfl (lv_at hl 4 rfl) ?_
        obtain ⟨hi13, hF⟩ := ck_ok hF
        refine ra_ld Z hP (ia_6_0 (ir_23 hi12)) hi13 dX9_get_59 ?_
        exact ret_IWC Z hr hlk hP hS hF dX9_get_60
      · have hF := (if_neg hc).symm.trans hF
        refine lv_aload_n hx hb dX9_get_38 rfl (lv_at hl 1 rfl) ?_
        refine lv_iload hx hb dX9_get_39 (lv_at hl 0 rfl) ?_
        obtain ⟨q14, hq14, hF⟩ := bd_ok hF
        refine xX9_finding Z hP hS hq14 wd_19_8 hl.1 (Nat.le_of_ble_eq_true rfl) ⟨Nat.le_of_ble_eq_true rfl, Nat.le_of_ble_eq_true rfl⟩ dX9_get_41 (fun H locs hP hS => ?_)
        refine lv_pop hx hb dX9_get_44 rfl ?_
        refine lv_ldcw (v := (-2147483648 : Int32)) hx hb hown (hts _ wd_41_7) dX9_get_45 ?_
        exact ret_IWC Z hr hlk hP hS hF dX9_get_48
    · have hF := (if_pos hc).symm.trans hF
      refine lv_ldcw (v := (-2147483648 : Int32)) hx hb hown (hts _ wd_41_7) dX9_get_16 ?_
      exact ret_IWC Z hr hlk hP hS hF dX9_get_19
theorem xX9_get {p : Program} {l : Launch} {e : Env} {R : Room} {s : State} {m : MethodId} {args : Array Value} {below : List Frame} {meth : Method} {c : Code} {H : Heap} {locs : List Loc} {Q : State → Prop} {cc : ByteArray} {nL : Nat} {own : String} {g : GG} {pc index : Nat} {ls : Array Slot} {rest : List Value} {mc mm : Mem} (Z : ZZ p s m args c cc nL own g) (hP : va_P g.2.2.1 vwCl (wL g mc mm) H) (hS : va_S (AA g s.heap.size) s.heap H locs) {v1 : Int32} {v2 : Int32} {v3 : Int32} {q : Int32 × Mem} (hq : F9_get v1 v2 v3 mc = some q) (hlk : Cond.methodLink own index yX9_get ∈ wsL_law) (hsz : ls.size = nL) (hro : (rest.map fun v => v.category).sum ≤ 8) (hR : 2 + 1 ≤ R.frames ∧ 8 + (5 + 11) + 43 ≤ R.locals) (hdg : decode cc pc = .ok (.invokevirtual index, 3)) (kk : ∀ (H : Heap) (locs : List Loc), va_P g.2.2.1 vwCl (wL g q.2 mm) H → va_S (AA g s.heap.size) s.heap H locs → W p l e R s m args below meth c H locs 0 0 Q (F0 m (pc + 3) ls (.int q.1 :: rest))) : W p l e R s m args below meth c H locs 0 0 Q (F0 m pc ls (.int v3 :: .int v2 :: .int v1 :: .ref (g.1 0) :: rest)) :=
  x_VI Z hP hS (kX9_get l g v1 v2 v3 mc mm q hq) (isO_w ck_0) (ci := 9) (by decide) rfl rfl mf_X9_get mv_X9_get hlk rfl rfl hsz hro hR hdg kk
theorem dX9_copy_0 : decode cX9_copy 0 = .ok (.iload_n 1, 1) := by decide +kernel
theorem dX9_copy_1 : decode cX9_copy 1 = .ok (.iconst 4, 1) := by decide +kernel
theorem dX9_copy_2 : decode cX9_copy 2 = .ok (.invokestatic 101, 3) := by decide +kernel
theorem dX9_copy_5 : decode cX9_copy 5 = .ok (.ifCond .eq 11, 3) := by decide +kernel
theorem dX9_copy_8 : decode cX9_copy 8 = .ok (.iload_n 3, 1) := by decide +kernel
theorem dX9_copy_9 : decode cX9_copy 9 = .ok (.iconst 4, 1) := by decide +kernel
theorem dX9_copy_10 : decode cX9_copy 10 = .ok (.invokestatic 101, 3) := by decide +kernel
theorem dX9_copy_13 : decode cX9_copy 13 = .ok (.ifCond .ne 6, 3) := by decide +kernel
theorem dX9_copy_16 : decode cX9_copy 16 = .ok (.bipush (-2), 2) := by decide +kernel
theorem dX9_copy_18 : decode cX9_copy 18 = .ok (.ireturn, 1) := by decide +kernel
theorem dX9_copy_19 : decode cX9_copy 19 = .ok (.aload_n 0, 1) := by decide +kernel
theorem dX9_copy_20 : decode cX9_copy 20 = .ok (.getfield 49, 3) := by decide +kernel
theorem dX9_copy_23 : decode cX9_copy 23 = .ok (.iload_n 1, 1) := by decide +kernel
theorem dX9_copy_24 : decode cX9_copy 24 = .ok (.aaload, 1) := by decide +kernel
theorem dX9_copy_25 : decode cX9_copy 25 = .ok (.astore 6, 2) := by decide +kernel
theorem dX9_copy_27 : decode cX9_copy 27 = .ok (.aload_n 0, 1) := by decide +kernel
theorem dX9_copy_28 : decode cX9_copy 28 = .ok (.getfield 49, 3) := by decide +kernel
theorem dX9_copy_31 : decode cX9_copy 31 = .ok (.iload_n 3, 1) := by decide +kernel
theorem dX9_copy_32 : decode cX9_copy 32 = .ok (.aaload, 1) := by decide +kernel
theorem dX9_copy_33 : decode cX9_copy 33 = .ok (.astore 7, 2) := by decide +kernel
theorem dX9_copy_35 : decode cX9_copy 35 = .ok (.aload 6, 2) := by decide +kernel
theorem dX9_copy_37 : decode cX9_copy 37 = .ok (.invokevirtual 161, 3) := by decide +kernel
theorem dX9_copy_40 : decode cX9_copy 40 = .ok (.ifCond .ne 11, 3) := by decide +kernel
theorem dX9_copy_43 : decode cX9_copy 43 = .ok (.aload 7, 2) := by decide +kernel
theorem dX9_copy_45 : decode cX9_copy 45 = .ok (.invokevirtual 161, 3) := by decide +kernel
theorem dX9_copy_48 : decode cX9_copy 48 = .ok (.ifCond .eq 9, 3) := by decide +kernel
theorem dX9_copy_51 : decode cX9_copy 51 = .ok (.aload_n 0, 1) := by decide +kernel
theorem dX9_copy_52 : decode cX9_copy 52 = .ok (.iconst 1, 1) := by decide +kernel
theorem dX9_copy_53 : decode cX9_copy 53 = .ok (.invokevirtual 165, 3) := by decide +kernel
theorem dX9_copy_56 : decode cX9_copy 56 = .ok (.ireturn, 1) := by decide +kernel
theorem dX9_copy_57 : decode cX9_copy 57 = .ok (.aload 6, 2) := by decide +kernel
theorem dX9_copy_59 : decode cX9_copy 59 = .ok (.getfield 289, 3) := by decide +kernel
theorem dX9_copy_62 : decode cX9_copy 62 = .ok (.aload 7, 2) := by decide +kernel
theorem dX9_copy_64 : decode cX9_copy 64 = .ok (.getfield 289, 3) := by decide +kernel
theorem dX9_copy_67 : decode cX9_copy 67 = .ok (.if_icmp .eq 9, 3) := by decide +kernel
theorem dX9_copy_70 : decode cX9_copy 70 = .ok (.aload_n 0, 1) := by decide +kernel
theorem dX9_copy_71 : decode cX9_copy 71 = .ok (.iconst 4, 1) := by decide +kernel
theorem dX9_copy_72 : decode cX9_copy 72 = .ok (.invokevirtual 165, 3) := by decide +kernel
theorem dX9_copy_75 : decode cX9_copy 75 = .ok (.ireturn, 1) := by decide +kernel
theorem dX9_copy_76 : decode cX9_copy 76 = .ok (.aload 6, 2) := by decide +kernel
theorem dX9_copy_78 : decode cX9_copy 78 = .ok (.iload_n 2, 1) := by decide +kernel
theorem dX9_copy_79 : decode cX9_copy 79 = .ok (.iload 5, 2) := by decide +kernel
theorem dX9_copy_81 : decode cX9_copy 81 = .ok (.invokevirtual 292, 3) := by decide +kernel
theorem dX9_copy_84 : decode cX9_copy 84 = .ok (.ifCond .eq 15, 3) := by decide +kernel
theorem dX9_copy_87 : decode cX9_copy 87 = .ok (.aload 7, 2) := by decide +kernel
theorem dX9_copy_89 : decode cX9_copy 89 = .ok (.iload 4, 2) := by decide +kernel
theorem dX9_copy_91 : decode cX9_copy 91 = .ok (.iload 5, 2) := by decide +kernel
theorem dX9_copy_93 : decode cX9_copy 93 = .ok (.invokevirtual 292, 3) := by decide +kernel
theorem dX9_copy_96 : decode cX9_copy 96 = .ok (.ifCond .ne 9, 3) := by decide +kernel
theorem dX9_copy_99 : decode cX9_copy 99 = .ok (.aload_n 0, 1) := by decide +kernel
theorem dX9_copy_100 : decode cX9_copy 100 = .ok (.iconst 2, 1) := by decide +kernel
theorem dX9_copy_101 : decode cX9_copy 101 = .ok (.invokevirtual 165, 3) := by decide +kernel
theorem dX9_copy_104 : decode cX9_copy 104 = .ok (.ireturn, 1) := by decide +kernel
theorem dX9_copy_105 : decode cX9_copy 105 = .ok (.aload 6, 2) := by decide +kernel
theorem dX9_copy_107 : decode cX9_copy 107 = .ok (.getfield 286, 3) := by decide +kernel
theorem dX9_copy_110 : decode cX9_copy 110 = .ok (.iload_n 2, 1) := by decide +kernel
theorem dX9_copy_111 : decode cX9_copy 111 = .ok (.aload 7, 2) := by decide +kernel
theorem dX9_copy_113 : decode cX9_copy 113 = .ok (.getfield 286, 3) := by decide +kernel
theorem dX9_copy_116 : decode cX9_copy 116 = .ok (.iload 4, 2) := by decide +kernel
theorem dX9_copy_118 : decode cX9_copy 118 = .ok (.iload 5, 2) := by decide +kernel
theorem dX9_copy_120 : decode cX9_copy 120 = .ok (.invokestatic 295, 3) := by decide +kernel
theorem dX9_copy_123 : decode cX9_copy 123 = .ok (.iconst 1, 1) := by decide +kernel
theorem dX9_copy_124 : decode cX9_copy 124 = .ok (.ireturn, 1) := by decide +kernel
noncomputable def F9_copy_b51 (v1 : Int32) (v2 : Int32) (v3 : Int32) (v4 : Int32) (v5 : Int32) (M : Mem) : Option (Int32 × Mem) :=
  ((F9_finding (1 : Int32) M).bind (fun q12 => (some (q12.1, q12.2))))
noncomputable def F9_copy_b99 (v1 : Int32) (v2 : Int32) (v3 : Int32) (v4 : Int32) (v5 : Int32) (M : Mem) : Option (Int32 × Mem) :=
  ((F9_finding (2 : Int32) M).bind (fun q13 => (some (q13.1, q13.2))))
noncomputable def F9_copy (v1 : Int32) (v2 : Int32) (v3 : Int32) (v4 : Int32) (v5 : Int32) (mc : Mem) : Option (Int32 × Mem) :=
  ((F9_in v1 (4 : Int32)).bind (fun q14 => (if q14 = (0 : Int32) then some ((-2 : Int32), mc) else ((F9_in v3 (4 : Int32)).bind (fun q15 => (if q15 = (0 : Int32) then some ((-2 : Int32), mc) else (ck v1 4 (ck v3 4 ((F6_isLost (26 + 2 * v1.toNatClampNeg) mc).bind (fun q18 => (if q18 = (0 : Int32) then ((F6_isLost (26 + 2 * v3.toNatClampNeg) mc).bind (fun q19 => (if q19 = (0 : Int32) then (if (mc (26 + 2 * v1.toNatClampNeg) 1) = (mc (26 + 2 * v3.toNatClampNeg) 1) then ((F6_hasRun (26 + 2 * v1.toNatClampNeg) v2 v5 mc).bind (fun q20 => (if q20 = (0 : Int32) then (F9_copy_b99 v1 v2 v3 v4 v5) mc else ((F6_hasRun (26 + 2 * v3.toNatClampNeg) v4 v5 mc).bind (fun q21 => (if q21 = (0 : Int32) then (F9_copy_b99 v1 v2 v3 v4 v5) mc else (cpk v2 v4 v5 60 60 (some ((1 : Int32), (mcpy mc ((26 + 2 * v1.toNatClampNeg) + 1) v2.toNatClampNeg ((26 + 2 * v3.toNatClampNeg) + 1) v4.toNatClampNeg v5.toNatClampNeg)))))))))) else ((F9_finding (4 : Int32) mc).bind (fun q22 => (some (q22.1, q22.2))))) else (F9_copy_b51 v1 v2 v3 v4 v5) mc))) else (F9_copy_b51 v1 v2 v3 v4 v5) mc)))))))))))
set_option maxHeartbeats 4000000 in
set_option maxRecDepth 100000 in
theorem kX9_copy (l : Launch) (g : GG) (v1 : Int32) (v2 : Int32) (v3 : Int32) (v4 : Int32) (v5 : Int32) (mc mm : Mem) (q : Int32 × Mem) (hF : F9_copy v1 v2 v3 v4 v5 mc = some q) : KI l yX9_copy cX9_copy 8 .int 1 40 g [.ref (g.1 0), .int v1, .int v2, .int v3, .int v4, .int v5] mc mm q.1 (q.2, mm) := by
  intro sz
  refine x_start (Qc := fun z => QI g z q.1 (q.2, mm)) (by decide +kernel) (Nat.le_of_ble_eq_true rfl) ?_ sz
  intro p e s m args below meth c ls Z hr hlk hP hl
  have hx := Z.1.1
  have hb := Z.1.2.1
  have hown := Z.1.2.2.2.1
  have hts := Z.1.2.2.2.2
  have hS : va_S (AA g s.heap.size) s.heap s.heap [] := va_S.rf
  have hl : lv_has ls 8 [(0, .ref (g.1 0)), (1, .int v1), (2, .int v2), (3, .int v3), (4, .int v4), (5, .int v5)] := hl
  unfold F9_copy at hF
  have hb51 : ∀  (M : Mem), F9_copy_b51 v1 v2 v3 v4 v5 M = some q → ∀ (H : Heap) (locs : List Loc) (ls : Array Slot), lv_has ls 8 [(0, .ref (g.1 0))] → va_P g.2.2.1 vwCl (wL g M mm) H → va_S (AA g s.heap.size) s.heap H locs → W p l e { frames := 1, cells := 0, slots := 0, locals := 40 } s m args below meth c H locs 0 0 (MQ below (QI g s.heap.size q.1 (q.2, mm)) args s 0 0 (AA g s.heap.size)) (F0 m 51 ls []) := by
    intro M hF H locs ls hl hP hS
    unfold F9_copy_b51 at hF
    refine lv_aload_n hx hb dX9_copy_51 rfl (lv_at hl 0 rfl) ?_
    refine lv_iconst (v := (1 : Int32)) hx hb dX9_copy_52 ic_1 ?_
    obtain ⟨q12, hq12, hF⟩ := bd_ok hF
    refine xX9_finding Z hP hS hq12 wd_19_8 hl.1 (Nat.le_of_ble_eq_true rfl) ⟨Nat.le_of_ble_eq_true rfl, Nat.le_of_ble_eq_true rfl⟩ dX9_copy_53 (fun H locs hP hS => ?_)
    exact ret_IWC Z hr hlk hP hS hF dX9_copy_56
  have hb99 : ∀  (M : Mem), F9_copy_b99 v1 v2 v3 v4 v5 M = some q → ∀ (H : Heap) (locs : List Loc) (ls : Array Slot), lv_has ls 8 [(0, .ref (g.1 0))] → va_P g.2.2.1 vwCl (wL g M mm) H → va_S (AA g s.heap.size) s.heap H locs → W p l e { frames := 1, cells := 0, slots := 0, locals := 40 } s m args below meth c H locs 0 0 (MQ below (QI g s.heap.size q.1 (q.2, mm)) args s 0 0 (AA g s.heap.size)) (F0 m 99 ls []) := by
    intro M hF H locs ls hl hP hS
    unfold F9_copy_b99 at hF
    refine lv_aload_n hx hb dX9_copy_99 rfl (lv_at hl 0 rfl) ?_
    refine lv_iconst (v := (2 : Int32)) hx hb dX9_copy_100 ic_2 ?_
    obtain ⟨q13, hq13, hF⟩ := bd_ok hF
    refine xX9_finding Z hP hS hq13 wd_19_8 hl.1 (Nat.le_of_ble_eq_true rfl) ⟨Nat.le_of_ble_eq_true rfl, Nat.le_of_ble_eq_true rfl⟩ dX9_copy_101 (fun H locs hP hS => ?_)
    exact ret_IWC Z hr hlk hP hS hF dX9_copy_104
  refine lv_iload_n hx hb dX9_copy_0 rfl (lv_at hl 1 rfl) ?_
  refine lv_iconst (v := (4 : Int32)) hx hb dX9_copy_1 ic_4 ?_
  obtain ⟨q14, hq14, hF⟩ := bd_ok hF
  refine xX9_in Z hP hS hq14 wd_7_7 hl.1 (Nat.le_of_ble_eq_true rfl) ⟨Nat.le_of_ble_eq_true rfl, Nat.le_of_ble_eq_true rfl⟩ dX9_copy_2 (fun H locs hP hS => ?_)
  refine lv_if_eq (tgt := 16) hx hb dX9_copy_5 rfl (fun hc => ?_) (fun hc => ?_)
  · have hF := (if_pos hc).symm.trans hF
    refine lv_bipush (v := (-2 : Int32)) hx hb dX9_copy_16 bp_m2 ?_
    exact ret_IWC Z hr hlk hP hS hF dX9_copy_18
  · have hF := (if_neg hc).symm.trans hF
    refine lv_iload_n hx hb dX9_copy_8 rfl (lv_at hl 3 rfl) ?_
    refine lv_iconst (v := (4 : Int32)) hx hb dX9_copy_9 ic_4 ?_
    obtain ⟨q15, hq15, hF⟩ := bd_ok hF
    refine xX9_in Z hP hS hq15 wd_7_7 hl.1 (Nat.le_of_ble_eq_true rfl) ⟨Nat.le_of_ble_eq_true rfl, Nat.le_of_ble_eq_true rfl⟩ dX9_copy_10 (fun H locs hP hS => ?_)
    refine lv_if_ne (tgt := 19) hx hb dX9_copy_13 rfl (fun hc => ?_) (fun hc => ?_)
    · have hF := (if_neg hc).symm.trans hF
      refine lv_aload_n hx hb dX9_copy_19 rfl (lv_at hl 0 rfl) ?_
      refine gf9_5 Z hP wd_2_11 dX9_copy_20 ?_
      refine lv_iload_n hx hb dX9_copy_23 rfl (lv_at hl 1 rfl) ?_
      obtain ⟨hi16, hF⟩ := ck_ok hF
      refine rq_23 Z hP hi16 dX9_copy_24 ?_
      refine lv_astore (lv' := [(6, .ref (g.1 (26 + 2 * v1.toNatClampNeg))), (0, .ref (g.1 0)), (1, .int v1), (2, .int v2), (3, .int v3), (4, .int v4), (5, .int v5)]) hx hb dX9_copy_25 hl (Nat.le_of_ble_eq_true rfl) rfl (fun ls hl => ?_)
      refine lv_aload_n hx hb dX9_copy_27 rfl (lv_at hl 1 rfl) ?_
      refine gf9_5 Z hP wd_2_11 dX9_copy_28 ?_
      refine lv_iload_n hx hb dX9_copy_31 rfl (lv_at hl 4 rfl) ?_
      obtain ⟨hi17, hF⟩ := ck_ok hF
      refine rq_23 Z hP hi17 dX9_copy_32 ?_
      refine lv_astore (lv' := [(7, .ref (g.1 (26 + 2 * v3.toNatClampNeg))), (6, .ref (g.1 (26 + 2 * v1.toNatClampNeg))), (0, .ref (g.1 0)), (1, .int v1), (2, .int v2), (3, .int v3), (4, .int v4), (5, .int v5)]) hx hb dX9_copy_33 hl (Nat.le_of_ble_eq_true rfl) rfl (fun ls hl => ?_)
      refine lv_aload hx hb dX9_copy_35 (lv_at hl 1 rfl) ?_
      obtain ⟨q18, hq18, hF⟩ := bd_ok hF
      refine xX6_isLost Z hP hS (ir_23 hi16) hq18 wd_19_4 hl.1 (Nat.le_of_ble_eq_true rfl) ⟨Nat.le_of_ble_eq_true rfl, Nat.le_of_ble_eq_true rfl⟩ dX9_copy_37 (fun H locs hP hS => ?_)
      refine lv_if_ne (tgt := 51) hx hb dX9_copy_40 rfl (fun hc => ?_) (fun hc => ?_)
      · have hF := (if_neg hc).symm.trans hF
        exact hb51 _ hF _ _ _ (lv_sub hl [2] rfl) hP hS
      · have hF := (if_pos hc).symm.trans hF
        refine lv_aload hx hb dX9_copy_43 (lv_at hl 0 rfl) ?_
        obtain ⟨q19, hq19, hF⟩ := bd_ok hF
        refine xX6_isLost Z hP hS (ir_23 hi17) hq19 wd_19_4 hl.1 (Nat.le_of_ble_eq_true rfl) ⟨Nat.le_of_ble_eq_true rfl, Nat.le_of_ble_eq_true rfl⟩ dX9_copy_45 (fun H locs hP hS => ?_)
        refine lv_if_eq (tgt := 57) hx hb dX9_copy_48 rfl (fun hc => ?_) (fun hc => ?_)
        · have hF := (if_pos hc).symm.trans hF
          refine lv_aload hx hb dX9_copy_57 (lv_at hl 1 rfl) ?_
          refine gf6_1N Z hP (ir_23 hi16) nf_24 dX9_copy_59 ?_
          refine lv_aload hx hb dX9_copy_62 (lv_at hl 0 rfl) ?_
          refine gf6_1N Z hP (ir_23 hi17) nf_24 dX9_copy_64 ?_
          refine lv_icmp_eq (tgt := 76) hx hb dX9_copy_67 rfl (fun hc => ?_) (fun hc => ?_)
          · have hF := (if_pos hc).symm.trans hF
            refine lv_aload hx hb dX9_copy_76 (lv_at hl 1 rfl) ?_
            refine lv_iload_n hx hb dX9_copy_78 rfl (lv_at hl 4 rfl) ?_
            refine lv_iload hx hb dX9_copy_79 (lv_at hl 7 rfl) ?_
            obtain ⟨q20, hq20, hF⟩ := bd_ok hF
            refine xX6_hasRun Z hP hS (ir_23 hi16) hq20 wd_41_21 hl.1 (Nat.le_of_ble_eq_true rfl) ⟨Nat.le_of_ble_eq_true rfl, Nat.le_of_ble_eq_true rfl⟩ dX9_copy_81 (fun H locs hP hS => ?_)
            refine lv_if_eq (tgt := 99) hx hb dX9_copy_84 rfl (fun hc => ?_) (fun hc => ?_)
            · have hF := (if_pos hc).symm.trans hF
              exact hb99 _ hF _ _ _ (lv_sub hl [2] rfl) hP hS
            · have hF := (if_neg hc).symm.trans hF
              refine lv_aload hx hb dX9_copy_87 (lv_at hl 0 rfl) ?_
              refine lv_iload hx hb dX9_copy_89 (lv_at hl 6 rfl) ?_
              refine lv_iload hx hb dX9_copy_91 (lv_at hl 7 rfl) ?_
              obtain ⟨q21, hq21, hF⟩ := bd_ok hF
              refine xX6_hasRun Z hP hS (ir_23 hi17) hq21 wd_41_21 hl.1 (Nat.le_of_ble_eq_true rfl) ⟨Nat.le_of_ble_eq_true rfl, Nat.le_of_ble_eq_true rfl⟩ dX9_copy_93 (fun H locs hP hS => ?_)
              refine lv_if_ne (tgt := 105) hx hb dX9_copy_96 rfl (fun hc => ?_) (fun hc => ?_)
              · have hF := (if_neg hc).symm.trans hF
                refine lv_aload hx hb dX9_copy_105 (lv_at hl 1 rfl) ?_
                refine gf6_0N Z hP (ir_23 hi16) nf_23 dX9_copy_107 ?_
                refine lv_iload_n hx hb dX9_copy_110 rfl (lv_at hl 4 rfl) ?_
                refine lv_aload hx hb dX9_copy_111 (lv_at hl 0 rfl) ?_
                refine gf6_0N Z hP (ir_23 hi17) nf_23 dX9_copy_113 ?_
                refine lv_iload hx hb dX9_copy_116 (lv_at hl 6 rfl) ?_
                refine lv_iload hx hb dX9_copy_118 (lv_at hl 7 rfl) ?_
                obtain ⟨hcp, hF⟩ := cpk_ok hF
                refine x_copy Z hP hS (ia_6_0 (ir_23 hi16)) (ia_6_0 (ir_23 hi17)) hcp wd_41_17 hl.1 ⟨Nat.le_of_ble_eq_true rfl, Nat.le_of_ble_eq_true rfl⟩ dX9_copy_120 (fun H locs hP hS => ?_)
                refine lv_iconst (v := (1 : Int32)) hx hb dX9_copy_123 ic_1 ?_
                exact ret_IWC Z hr hlk hP hS hF dX9_copy_124
              · have hF := (if_pos hc).symm.trans hF
                exact hb99 _ hF _ _ _ (lv_sub hl [2] rfl) hP hS
          · have hF := (if_neg hc).symm.trans hF
            refine lv_aload_n hx hb dX9_copy_70 rfl (lv_at hl 2 rfl) ?_
            refine lv_iconst (v := (4 : Int32)) hx hb dX9_copy_71 ic_4 ?_
            obtain ⟨q22, hq22, hF⟩ := bd_ok hF
            refine xX9_finding Z hP hS hq22 wd_19_8 hl.1 (Nat.le_of_ble_eq_true rfl) ⟨Nat.le_of_ble_eq_true rfl, Nat.le_of_ble_eq_true rfl⟩ dX9_copy_72 (fun H locs hP hS => ?_)
            exact ret_IWC Z hr hlk hP hS hF dX9_copy_75
        · have hF := (if_neg hc).symm.trans hF
          exact hb51 _ hF _ _ _ (lv_sub hl [2] rfl) hP hS
    · have hF := (if_pos hc).symm.trans hF
      refine lv_bipush (v := (-2 : Int32)) hx hb dX9_copy_16 bp_m2 ?_
      exact ret_IWC Z hr hlk hP hS hF dX9_copy_18
theorem xX9_copy {p : Program} {l : Launch} {e : Env} {R : Room} {s : State} {m : MethodId} {args : Array Value} {below : List Frame} {meth : Method} {c : Code} {H : Heap} {locs : List Loc} {Q : State → Prop} {cc : ByteArray} {nL : Nat} {own : String} {g : GG} {pc index : Nat} {ls : Array Slot} {rest : List Value} {mc mm : Mem} (Z : ZZ p s m args c cc nL own g) (hP : va_P g.2.2.1 vwCl (wL g mc mm) H) (hS : va_S (AA g s.heap.size) s.heap H locs) {v1 : Int32} {v2 : Int32} {v3 : Int32} {v4 : Int32} {v5 : Int32} {q : Int32 × Mem} (hq : F9_copy v1 v2 v3 v4 v5 mc = some q) (hlk : Cond.methodLink own index yX9_copy ∈ wsL_law) (hsz : ls.size = nL) (hro : (rest.map fun v => v.category).sum ≤ 8) (hR : 1 + 1 ≤ R.frames ∧ 8 + (8 + 11) + 40 ≤ R.locals) (hdg : decode cc pc = .ok (.invokevirtual index, 3)) (kk : ∀ (H : Heap) (locs : List Loc), va_P g.2.2.1 vwCl (wL g q.2 mm) H → va_S (AA g s.heap.size) s.heap H locs → W p l e R s m args below meth c H locs 0 0 Q (F0 m (pc + 3) ls (.int q.1 :: rest))) : W p l e R s m args below meth c H locs 0 0 Q (F0 m pc ls (.int v5 :: .int v4 :: .int v3 :: .int v2 :: .int v1 :: .ref (g.1 0) :: rest)) :=
  x_VI Z hP hS (kX9_copy l g v1 v2 v3 v4 v5 mc mm q hq) (isO_w ck_0) (ci := 9) (by decide) rfl rfl mf_X9_copy mv_X9_copy hlk rfl rfl hsz hro hR hdg kk
theorem dX9_write_0 : decode cX9_write 0 = .ok (.iload_n 1, 1) := by decide +kernel
theorem dX9_write_1 : decode cX9_write 1 = .ok (.aload_n 0, 1) := by decide +kernel
theorem dX9_write_2 : decode cX9_write 2 = .ok (.getfield 28, 3) := by decide +kernel
theorem dX9_write_5 : decode cX9_write 5 = .ok (.getfield 134, 3) := by decide +kernel
theorem dX9_write_8 : decode cX9_write 8 = .ok (.invokestatic 101, 3) := by decide +kernel
theorem dX9_write_11 : decode cX9_write 11 = .ok (.ifCond .eq 11, 3) := by decide +kernel
theorem dX9_write_14 : decode cX9_write 14 = .ok (.iload_n 2, 1) := by decide +kernel
theorem dX9_write_15 : decode cX9_write 15 = .ok (.iconst 4, 1) := by decide +kernel
theorem dX9_write_16 : decode cX9_write 16 = .ok (.invokestatic 101, 3) := by decide +kernel
theorem dX9_write_19 : decode cX9_write 19 = .ok (.ifCond .ne 6, 3) := by decide +kernel
theorem dX9_write_22 : decode cX9_write 22 = .ok (.bipush (-2), 2) := by decide +kernel
theorem dX9_write_24 : decode cX9_write 24 = .ok (.ireturn, 1) := by decide +kernel
theorem dX9_write_25 : decode cX9_write 25 = .ok (.aload_n 0, 1) := by decide +kernel
theorem dX9_write_26 : decode cX9_write 26 = .ok (.getfield 49, 3) := by decide +kernel
theorem dX9_write_29 : decode cX9_write 29 = .ok (.iload_n 2, 1) := by decide +kernel
theorem dX9_write_30 : decode cX9_write 30 = .ok (.aaload, 1) := by decide +kernel
theorem dX9_write_31 : decode cX9_write 31 = .ok (.invokevirtual 161, 3) := by decide +kernel
theorem dX9_write_34 : decode cX9_write 34 = .ok (.ifCond .eq 9, 3) := by decide +kernel
theorem dX9_write_37 : decode cX9_write 37 = .ok (.aload_n 0, 1) := by decide +kernel
theorem dX9_write_38 : decode cX9_write 38 = .ok (.iconst 1, 1) := by decide +kernel
theorem dX9_write_39 : decode cX9_write 39 = .ok (.invokevirtual 165, 3) := by decide +kernel
theorem dX9_write_42 : decode cX9_write 42 = .ok (.ireturn, 1) := by decide +kernel
theorem dX9_write_43 : decode cX9_write 43 = .ok (.aload_n 0, 1) := by decide +kernel
theorem dX9_write_44 : decode cX9_write 44 = .ok (.invokevirtual 173, 3) := by decide +kernel
theorem dX9_write_47 : decode cX9_write 47 = .ok (.aload_n 0, 1) := by decide +kernel
theorem dX9_write_48 : decode cX9_write 48 = .ok (.getfield 49, 3) := by decide +kernel
theorem dX9_write_51 : decode cX9_write 51 = .ok (.iload_n 2, 1) := by decide +kernel
theorem dX9_write_52 : decode cX9_write 52 = .ok (.aaload, 1) := by decide +kernel
theorem dX9_write_53 : decode cX9_write 53 = .ok (.getfield 276, 3) := by decide +kernel
theorem dX9_write_56 : decode cX9_write 56 = .ok (.bipush 40, 2) := by decide +kernel
theorem dX9_write_58 : decode cX9_write 58 = .ok (.invokestatic 301, 3) := by decide +kernel
theorem dX9_write_61 : decode cX9_write 61 = .ok (.istore_n 3, 1) := by decide +kernel
theorem dX9_write_62 : decode cX9_write 62 = .ok (.iconst 0, 1) := by decide +kernel
theorem dX9_write_63 : decode cX9_write 63 = .ok (.istore 4, 2) := by decide +kernel
theorem dX9_write_65 : decode cX9_write 65 = .ok (.iload 4, 2) := by decide +kernel
theorem dX9_write_67 : decode cX9_write 67 = .ok (.iload_n 3, 1) := by decide +kernel
theorem dX9_write_68 : decode cX9_write 68 = .ok (.if_icmp .ge 32, 3) := by decide +kernel
theorem dX9_write_71 : decode cX9_write 71 = .ok (.aload_n 0, 1) := by decide +kernel
theorem dX9_write_72 : decode cX9_write 72 = .ok (.getfield 49, 3) := by decide +kernel
theorem dX9_write_75 : decode cX9_write 75 = .ok (.iload_n 2, 1) := by decide +kernel
theorem dX9_write_76 : decode cX9_write 76 = .ok (.aaload, 1) := by decide +kernel
theorem dX9_write_77 : decode cX9_write 77 = .ok (.iload 4, 2) := by decide +kernel
theorem dX9_write_79 : decode cX9_write 79 = .ok (.aload_n 0, 1) := by decide +kernel
theorem dX9_write_80 : decode cX9_write 80 = .ok (.getfield 63, 3) := by decide +kernel
theorem dX9_write_83 : decode cX9_write 83 = .ok (.iload_n 1, 1) := by decide +kernel
theorem dX9_write_84 : decode cX9_write 84 = .ok (.aaload, 1) := by decide +kernel
theorem dX9_write_85 : decode cX9_write 85 = .ok (.getfield 179, 3) := by decide +kernel
theorem dX9_write_88 : decode cX9_write 88 = .ok (.iload 4, 2) := by decide +kernel
theorem dX9_write_90 : decode cX9_write 90 = .ok (.iaload, 1) := by decide +kernel
theorem dX9_write_91 : decode cX9_write 91 = .ok (.invokevirtual 282, 3) := by decide +kernel
theorem dX9_write_94 : decode cX9_write 94 = .ok (.iinc 4 1, 3) := by decide +kernel
theorem dX9_write_97 : decode cX9_write 97 = .ok (.goto (-32), 3) := by decide +kernel
theorem dX9_write_100 : decode cX9_write 100 = .ok (.iload_n 3, 1) := by decide +kernel
theorem dX9_write_101 : decode cX9_write 101 = .ok (.ireturn, 1) := by decide +kernel
noncomputable def F9_write_p65 (kh : Int32 → Int32 → Mem → Option (Int32 × Mem)) (v1 : Int32) (v2 : Int32) (a3 : Int32) (a4 : Int32) (M : Mem) : Option (Int32 × Mem) :=
  (if a3 ≤ a4 then some (a3, M) else (ck v2 4 (ck v1 8 (ck a4 40 ((F6_put (26 + 2 * v2.toNatClampNeg) a4 (M ((39 + 5 * v1.toNatClampNeg) + 1) a4.toNatClampNeg) M).bind (fun q15 => (kh a3 (a4 + (1 : Int32)) q15)))))))
noncomputable def F9_write_h65 (v1 : Int32) (v2 : Int32) : Nat → Int32 → Int32 → Mem → Option (Int32 × Mem)
  | 0, _, _, _ => none
  | n + 1, a3, a4, M => F9_write_p65 (F9_write_h65 v1 v2 n) v1 v2 a3 a4 M
noncomputable def F9_write (v1 : Int32) (v2 : Int32) (mc : Mem) : Option (Int32 × Mem) :=
  ((F9_in v1 (mc 11 5)).bind (fun q16 => (if q16 = (0 : Int32) then some ((-2 : Int32), mc) else ((F9_in v2 (4 : Int32)).bind (fun q17 => (if q17 = (0 : Int32) then some ((-2 : Int32), mc) else (ck v2 4 ((F6_isLost (26 + 2 * v2.toNatClampNeg) mc).bind (fun q19 => (if q19 = (0 : Int32) then ((F9_refresh mc).bind (fun q20 => (ck v2 4 ((F9_write_h65 v1 v2 FU) (if (40 : Int32) < (q20 (26 + 2 * v2.toNatClampNeg) 2) then (40 : Int32) else (q20 (26 + 2 * v2.toNatClampNeg) 2)) (0 : Int32) q20)))) else ((F9_finding (1 : Int32) mc).bind (fun q22 => (some (q22.1, q22.2))))))))))))))
set_option maxHeartbeats 4000000 in
set_option maxRecDepth 100000 in
theorem kX9_write (l : Launch) (g : GG) (v1 : Int32) (v2 : Int32) (mc mm : Mem) (q : Int32 × Mem) (hF : F9_write v1 v2 mc = some q) : KI l yX9_write cX9_write 5 .int 3 77 g [.ref (g.1 0), .int v1, .int v2] mc mm q.1 (q.2, mm) := by
  intro sz
  refine x_start (Qc := fun z => QI g z q.1 (q.2, mm)) (by decide +kernel) (Nat.le_of_ble_eq_true rfl) ?_ sz
  intro p e s m args below meth c ls Z hr hlk hP hl
  have hx := Z.1.1
  have hb := Z.1.2.1
  have hown := Z.1.2.2.2.1
  have hts := Z.1.2.2.2.2
  have hS : va_S (AA g s.heap.size) s.heap s.heap [] := va_S.rf
  have hl : lv_has ls 5 [(0, .ref (g.1 0)), (1, .int v1), (2, .int v2)] := hl
  unfold F9_write at hF
  have hL65 : ∀ n : Nat, ∀ (a3 : Int32) (a4 : Int32) (M : Mem), F9_write_h65 v1 v2 n a3 a4 M = some q → ∀ (H : Heap) (locs : List Loc) (ls : Array Slot), lv_has ls 5 [(0, .ref (g.1 0)), (1, .int v1), (2, .int v2), (3, .int a3), (4, .int a4)] → va_P g.2.2.1 vwCl (wL g M mm) H → va_S (AA g s.heap.size) s.heap H locs → W p l e { frames := 3, cells := 0, slots := 0, locals := 77 } s m args below meth c H locs 0 0 (MQ below (QI g s.heap.size q.1 (q.2, mm)) args s 0 0 (AA g s.heap.size)) (F0 m 65 ls []) := by
    intro n
    induction n with
    | zero => intro a3 a4 M hF H locs ls hl hP hS; exact absurd hF (fun z => nomatch (show (none : Option _) = some q from z))
    | succ n ih =>
      generalize hkh : F9_write_h65 v1 v2 n = kh at ih
      intro a3 a4 M hF H locs ls hl hP hS
      have hF : F9_write_p65 (F9_write_h65 v1 v2 n) v1 v2 a3 a4 M = some q := hF
      rw [hkh] at hF
      unfold F9_write_p65 at hF
      refine lv_iload hx hb dX9_write_65 (lv_at hl 4 rfl) ?_
      refine lv_iload_n hx hb dX9_write_67 rfl (lv_at hl 3 rfl) ?_
      refine lv_icmp_ge (tgt := 100) hx hb dX9_write_68 rfl (fun hc => ?_) (fun hc => ?_)
      · have hF := (if_pos hc).symm.trans hF
        refine lv_iload_n hx hb dX9_write_100 rfl (lv_at hl 3 rfl) ?_
        exact ret_IWC Z hr hlk hP hS hF dX9_write_101
      · have hF := (if_neg hc).symm.trans hF
        refine lv_aload_n hx hb dX9_write_71 rfl (lv_at hl 0 rfl) ?_
        refine gf9_5 Z hP wd_2_11 dX9_write_72 ?_
        refine lv_iload_n hx hb dX9_write_75 rfl (lv_at hl 2 rfl) ?_
        obtain ⟨hi12, hF⟩ := ck_ok hF
        refine rq_23 Z hP hi12 dX9_write_76 ?_
        refine lv_iload hx hb dX9_write_77 (lv_at hl 4 rfl) ?_
        refine lv_aload_n hx hb dX9_write_79 rfl (lv_at hl 0 rfl) ?_
        refine gf9_8 Z hP wd_2_19 dX9_write_80 ?_
        refine lv_iload_n hx hb dX9_write_83 rfl (lv_at hl 1 rfl) ?_
        obtain ⟨hi13, hF⟩ := ck_ok hF
        refine rq_24 Z hP hi13 dX9_write_84 ?_
        refine gf4_0N Z hP (ir_24 hi13) nf_14 dX9_write_85 ?_
        refine lv_iload hx hb dX9_write_88 (lv_at hl 4 rfl) ?_
        obtain ⟨hi14, hF⟩ := ck_ok hF
        refine ra_ld Z hP (ia_4_0 (ir_24 hi13)) hi14 dX9_write_90 ?_
        obtain ⟨q15, hq15, hF⟩ := bd_ok hF
        refine xX6_put Z hP hS (ir_23 hi12) hq15 wd_40_12 hl.1 (Nat.le_of_ble_eq_true rfl) ⟨Nat.le_of_ble_eq_true rfl, Nat.le_of_ble_eq_true rfl⟩ dX9_write_91 (fun H locs hP hS => ?_)
        refine lv_iinc (lv' := [(4, .int (a4 + (1 : Int32))), (0, .ref (g.1 0)), (1, .int v1), (2, .int v2), (3, .int a3)]) (v := (a4 + (1 : Int32))) hx hb dX9_write_94 hl (k := 4) rfl (io_1 _) (Nat.le_of_ble_eq_true rfl) rfl (fun ls hl => ?_)
        refine lv_goto (tgt := 65) hx hb dX9_write_97 rfl ?_
        exact ih _ _ _ hF _ _ _ (lv_sub hl [1, 2, 3, 4, 0] rfl) hP hS
  refine lv_iload_n hx hb dX9_write_0 rfl (lv_at hl 1 rfl) ?_
  refine lv_aload_n hx hb dX9_write_1 rfl (lv_at hl 0 rfl) ?_
  refine gf9_2 Z hP wd_1_23 dX9_write_2 ?_
  refine gf5_5N Z hP ck_11 nf_7 dX9_write_5 ?_
  obtain ⟨q16, hq16, hF⟩ := bd_ok hF
  refine xX9_in Z hP hS hq16 wd_7_7 hl.1 (Nat.le_of_ble_eq_true rfl) ⟨Nat.le_of_ble_eq_true rfl, Nat.le_of_ble_eq_true rfl⟩ dX9_write_8 (fun H locs hP hS => ?_)
  refine lv_if_eq (tgt := 22) hx hb dX9_write_11 rfl (fun hc => ?_) (fun hc => ?_)
  · have hF := (if_pos hc).symm.trans hF
    refine lv_bipush (v := (-2 : Int32)) hx hb dX9_write_22 bp_m2 ?_
    exact ret_IWC Z hr hlk hP hS hF dX9_write_24
  · have hF := (if_neg hc).symm.trans hF
    refine lv_iload_n hx hb dX9_write_14 rfl (lv_at hl 2 rfl) ?_
    refine lv_iconst (v := (4 : Int32)) hx hb dX9_write_15 ic_4 ?_
    obtain ⟨q17, hq17, hF⟩ := bd_ok hF
    refine xX9_in Z hP hS hq17 wd_7_7 hl.1 (Nat.le_of_ble_eq_true rfl) ⟨Nat.le_of_ble_eq_true rfl, Nat.le_of_ble_eq_true rfl⟩ dX9_write_16 (fun H locs hP hS => ?_)
    refine lv_if_ne (tgt := 25) hx hb dX9_write_19 rfl (fun hc => ?_) (fun hc => ?_)
    · have hF := (if_neg hc).symm.trans hF
      refine lv_aload_n hx hb dX9_write_25 rfl (lv_at hl 0 rfl) ?_
      refine gf9_5 Z hP wd_2_11 dX9_write_26 ?_
      refine lv_iload_n hx hb dX9_write_29 rfl (lv_at hl 2 rfl) ?_
      obtain ⟨hi18, hF⟩ := ck_ok hF
      refine rq_23 Z hP hi18 dX9_write_30 ?_
      obtain ⟨q19, hq19, hF⟩ := bd_ok hF
      refine xX6_isLost Z hP hS (ir_23 hi18) hq19 wd_19_4 hl.1 (Nat.le_of_ble_eq_true rfl) ⟨Nat.le_of_ble_eq_true rfl, Nat.le_of_ble_eq_true rfl⟩ dX9_write_31 (fun H locs hP hS => ?_)
      refine lv_if_eq (tgt := 43) hx hb dX9_write_34 rfl (fun hc => ?_) (fun hc => ?_)
      · have hF := (if_pos hc).symm.trans hF
        refine lv_aload_n hx hb dX9_write_43 rfl (lv_at hl 0 rfl) ?_
        obtain ⟨q20, hq20, hF⟩ := bd_ok hF
        refine xX9_refresh Z hP hS hq20 wd_20_10 hl.1 (Nat.le_of_ble_eq_true rfl) ⟨Nat.le_of_ble_eq_true rfl, Nat.le_of_ble_eq_true rfl⟩ dX9_write_44 (fun H locs hP hS => ?_)
        refine lv_aload_n hx hb dX9_write_47 rfl (lv_at hl 0 rfl) ?_
        refine gf9_5 Z hP wd_2_11 dX9_write_48 ?_
        refine lv_iload_n hx hb dX9_write_51 rfl (lv_at hl 2 rfl) ?_
        obtain ⟨hi21, hF⟩ := ck_ok hF
        refine rq_23 Z hP hi21 dX9_write_52 ?_
        refine gf6_2N Z hP (ir_23 hi21) nf_22 dX9_write_53 ?_
        refine lv_bipush (v := (40 : Int32)) hx hb dX9_write_56 bp_40 ?_
        refine va_mmin hx hb (Z.1.2.2.1.trans hl.1.symm) hown (hts _ wd_42_9) (hts _ wd_9_14) (hts _ wd_3_16) (hts _ wd_9_15) (Nat.le_of_ble_eq_true rfl) (Nat.le_of_ble_eq_true rfl) (Nat.zero_le _) (Nat.zero_le _) dX9_write_58 ?_
        refine lv_istore_n (lv' := [(3, .int (if (40 : Int32) < (q20 (26 + 2 * v2.toNatClampNeg) 2) then (40 : Int32) else (q20 (26 + 2 * v2.toNatClampNeg) 2))), (0, .ref (g.1 0)), (1, .int v1), (2, .int v2)]) hx hb dX9_write_61 rfl hl (Nat.le_of_ble_eq_true rfl) rfl (fun ls hl => ?_)
        refine lv_iconst (v := (0 : Int32)) hx hb dX9_write_62 ic_0 ?_
        refine lv_istore (lv' := [(4, .int (0 : Int32)), (3, .int (if (40 : Int32) < (q20 (26 + 2 * v2.toNatClampNeg) 2) then (40 : Int32) else (q20 (26 + 2 * v2.toNatClampNeg) 2))), (0, .ref (g.1 0)), (1, .int v1), (2, .int v2)]) hx hb dX9_write_63 hl (Nat.le_of_ble_eq_true rfl) rfl (fun ls hl => ?_)
        exact (hL65 FU) _ _ _ hF _ _ _ (lv_sub hl [2, 3, 4, 1, 0] rfl) hP hS
      · have hF := (if_neg hc).symm.trans hF
        refine lv_aload_n hx hb dX9_write_37 rfl (lv_at hl 0 rfl) ?_
        refine lv_iconst (v := (1 : Int32)) hx hb dX9_write_38 ic_1 ?_
        obtain ⟨q22, hq22, hF⟩ := bd_ok hF
        refine xX9_finding Z hP hS hq22 wd_19_8 hl.1 (Nat.le_of_ble_eq_true rfl) ⟨Nat.le_of_ble_eq_true rfl, Nat.le_of_ble_eq_true rfl⟩ dX9_write_39 (fun H locs hP hS => ?_)
        exact ret_IWC Z hr hlk hP hS hF dX9_write_42
    · have hF := (if_pos hc).symm.trans hF
      refine lv_bipush (v := (-2 : Int32)) hx hb dX9_write_22 bp_m2 ?_
      exact ret_IWC Z hr hlk hP hS hF dX9_write_24
theorem xX9_write {p : Program} {l : Launch} {e : Env} {R : Room} {s : State} {m : MethodId} {args : Array Value} {below : List Frame} {meth : Method} {c : Code} {H : Heap} {locs : List Loc} {Q : State → Prop} {cc : ByteArray} {nL : Nat} {own : String} {g : GG} {pc index : Nat} {ls : Array Slot} {rest : List Value} {mc mm : Mem} (Z : ZZ p s m args c cc nL own g) (hP : va_P g.2.2.1 vwCl (wL g mc mm) H) (hS : va_S (AA g s.heap.size) s.heap H locs) {v1 : Int32} {v2 : Int32} {q : Int32 × Mem} (hq : F9_write v1 v2 mc = some q) (hlk : Cond.methodLink own index yX9_write ∈ wsL_law) (hsz : ls.size = nL) (hro : (rest.map fun v => v.category).sum ≤ 8) (hR : 3 + 1 ≤ R.frames ∧ 8 + (5 + 11) + 77 ≤ R.locals) (hdg : decode cc pc = .ok (.invokevirtual index, 3)) (kk : ∀ (H : Heap) (locs : List Loc), va_P g.2.2.1 vwCl (wL g q.2 mm) H → va_S (AA g s.heap.size) s.heap H locs → W p l e R s m args below meth c H locs 0 0 Q (F0 m (pc + 3) ls (.int q.1 :: rest))) : W p l e R s m args below meth c H locs 0 0 Q (F0 m pc ls (.int v2 :: .int v1 :: .ref (g.1 0) :: rest)) :=
  x_VI Z hP hS (kX9_write l g v1 v2 mc mm q hq) (isO_w ck_0) (ci := 9) (by decide) rfl rfl mf_X9_write mv_X9_write hlk rfl rfl hsz hro hR hdg kk
theorem dX9_timesHeard_0 : decode cX9_timesHeard 0 = .ok (.aload_n 0, 1) := by decide +kernel
theorem dX9_timesHeard_1 : decode cX9_timesHeard 1 = .ok (.invokevirtual 173, 3) := by decide +kernel
theorem dX9_timesHeard_4 : decode cX9_timesHeard 4 = .ok (.iconst 0, 1) := by decide +kernel
theorem dX9_timesHeard_5 : decode cX9_timesHeard 5 = .ok (.istore_n 1, 1) := by decide +kernel
theorem dX9_timesHeard_6 : decode cX9_timesHeard 6 = .ok (.iconst 0, 1) := by decide +kernel
theorem dX9_timesHeard_7 : decode cX9_timesHeard 7 = .ok (.istore_n 2, 1) := by decide +kernel
theorem dX9_timesHeard_8 : decode cX9_timesHeard 8 = .ok (.iload_n 2, 1) := by decide +kernel
theorem dX9_timesHeard_9 : decode cX9_timesHeard 9 = .ok (.aload_n 0, 1) := by decide +kernel
theorem dX9_timesHeard_10 : decode cX9_timesHeard 10 = .ok (.getfield 28, 3) := by decide +kernel
theorem dX9_timesHeard_13 : decode cX9_timesHeard 13 = .ok (.getfield 134, 3) := by decide +kernel
theorem dX9_timesHeard_16 : decode cX9_timesHeard 16 = .ok (.if_icmp .ge 21, 3) := by decide +kernel
theorem dX9_timesHeard_19 : decode cX9_timesHeard 19 = .ok (.iload_n 1, 1) := by decide +kernel
theorem dX9_timesHeard_20 : decode cX9_timesHeard 20 = .ok (.aload_n 0, 1) := by decide +kernel
theorem dX9_timesHeard_21 : decode cX9_timesHeard 21 = .ok (.getfield 63, 3) := by decide +kernel
theorem dX9_timesHeard_24 : decode cX9_timesHeard 24 = .ok (.iload_n 2, 1) := by decide +kernel
theorem dX9_timesHeard_25 : decode cX9_timesHeard 25 = .ok (.aaload, 1) := by decide +kernel
theorem dX9_timesHeard_26 : decode cX9_timesHeard 26 = .ok (.invokevirtual 382, 3) := by decide +kernel
theorem dX9_timesHeard_29 : decode cX9_timesHeard 29 = .ok (.iadd, 1) := by decide +kernel
theorem dX9_timesHeard_30 : decode cX9_timesHeard 30 = .ok (.istore_n 1, 1) := by decide +kernel
theorem dX9_timesHeard_31 : decode cX9_timesHeard 31 = .ok (.iinc 2 1, 3) := by decide +kernel
theorem dX9_timesHeard_34 : decode cX9_timesHeard 34 = .ok (.goto (-26), 3) := by decide +kernel
theorem dX9_timesHeard_37 : decode cX9_timesHeard 37 = .ok (.iload_n 1, 1) := by decide +kernel
theorem dX9_timesHeard_38 : decode cX9_timesHeard 38 = .ok (.ireturn, 1) := by decide +kernel
noncomputable def F9_timesHeard_p8 (kh : Int32 → Int32 → Mem → Option (Int32 × Mem)) (a1 : Int32) (a2 : Int32) (M : Mem) : Option (Int32 × Mem) :=
  (if (M 11 5) ≤ a2 then some (a1, M) else (ck a2 8 ((F4_timesHeard (39 + 5 * a2.toNatClampNeg) M).bind (fun q5 => (kh (a1 + q5) (a2 + (1 : Int32)) M)))))
noncomputable def F9_timesHeard_h8 : Nat → Int32 → Int32 → Mem → Option (Int32 × Mem)
  | 0, _, _, _ => none
  | n + 1, a1, a2, M => F9_timesHeard_p8 (F9_timesHeard_h8 n) a1 a2 M
noncomputable def F9_timesHeard (mc : Mem) : Option (Int32 × Mem) :=
  ((F9_refresh mc).bind (fun q6 => ((F9_timesHeard_h8 FU) (0 : Int32) (0 : Int32) q6)))
set_option maxHeartbeats 4000000 in
set_option maxRecDepth 100000 in
theorem kX9_timesHeard (l : Launch) (g : GG) (mc mm : Mem) (q : Int32 × Mem) (hF : F9_timesHeard mc = some q) : KI l yX9_timesHeard cX9_timesHeard 3 .int 3 77 g [.ref (g.1 0)] mc mm q.1 (q.2, mm) := by
  intro sz
  refine x_start (Qc := fun z => QI g z q.1 (q.2, mm)) (by decide +kernel) (Nat.le_of_ble_eq_true rfl) ?_ sz
  intro p e s m args below meth c ls Z hr hlk hP hl
  have hx := Z.1.1
  have hb := Z.1.2.1
  have hown := Z.1.2.2.2.1
  have hts := Z.1.2.2.2.2
  have hS : va_S (AA g s.heap.size) s.heap s.heap [] := va_S.rf
  have hl : lv_has ls 3 [(0, .ref (g.1 0))] := hl
  unfold F9_timesHeard at hF
  have hL8 : ∀ n : Nat, ∀ (a1 : Int32) (a2 : Int32) (M : Mem), F9_timesHeard_h8 n a1 a2 M = some q → ∀ (H : Heap) (locs : List Loc) (ls : Array Slot), lv_has ls 3 [(0, .ref (g.1 0)), (1, .int a1), (2, .int a2)] → va_P g.2.2.1 vwCl (wL g M mm) H → va_S (AA g s.heap.size) s.heap H locs → W p l e { frames := 3, cells := 0, slots := 0, locals := 77 } s m args below meth c H locs 0 0 (MQ below (QI g s.heap.size q.1 (q.2, mm)) args s 0 0 (AA g s.heap.size)) (F0 m 8 ls []) := by
    intro n
    induction n with
    | zero => intro a1 a2 M hF H locs ls hl hP hS; exact absurd hF (fun z => nomatch (show (none : Option _) = some q from z))
    | succ n ih =>
      generalize hkh : F9_timesHeard_h8 n = kh at ih
      intro a1 a2 M hF H locs ls hl hP hS
      have hF : F9_timesHeard_p8 (F9_timesHeard_h8 n) a1 a2 M = some q := hF
      rw [hkh] at hF
      unfold F9_timesHeard_p8 at hF
      refine lv_iload_n hx hb dX9_timesHeard_8 rfl (lv_at hl 2 rfl) ?_
      refine lv_aload_n hx hb dX9_timesHeard_9 rfl (lv_at hl 0 rfl) ?_
      refine gf9_2 Z hP wd_1_23 dX9_timesHeard_10 ?_
      refine gf5_5N Z hP ck_11 nf_7 dX9_timesHeard_13 ?_
      refine lv_icmp_ge (tgt := 37) hx hb dX9_timesHeard_16 rfl (fun hc => ?_) (fun hc => ?_)
      · have hF := (if_pos hc).symm.trans hF
        refine lv_iload_n hx hb dX9_timesHeard_37 rfl (lv_at hl 1 rfl) ?_
        exact ret_IWC Z hr hlk hP hS hF dX9_timesHeard_38
      · have hF := (if_neg hc).symm.trans hF
        refine lv_iload_n hx hb dX9_timesHeard_19 rfl (lv_at hl 1 rfl) ?_
        refine lv_aload_n hx hb dX9_timesHeard_20 rfl (lv_at hl 0 rfl) ?_
        refine gf9_8 Z hP wd_2_19 dX9_timesHeard_21 ?_
        refine lv_iload_n hx hb dX9_timesHeard_24 rfl (lv_at hl 2 rfl) ?_
        obtain ⟨hi4, hF⟩ := ck_ok hF
        refine rq_24 Z hP hi4 dX9_timesHeard_25 ?_
        obtain ⟨q5, hq5, hF⟩ := bd_ok hF
        refine xX4_timesHeard Z hP hS (ir_24 hi4) hq5 wd_42_22 hl.1 (Nat.le_of_ble_eq_true rfl) ⟨Nat.le_of_ble_eq_true rfl, Nat.le_of_ble_eq_true rfl⟩ dX9_timesHeard_26 (fun H locs hP hS => ?_)
        refine lv_iadd hx hb dX9_timesHeard_29 ?_
        refine lv_istore_n (lv' := [(1, .int (a1 + q5)), (0, .ref (g.1 0)), (2, .int a2)]) hx hb dX9_timesHeard_30 rfl hl (Nat.le_of_ble_eq_true rfl) rfl (fun ls hl => ?_)
        refine lv_iinc (lv' := [(2, .int (a2 + (1 : Int32))), (1, .int (a1 + q5)), (0, .ref (g.1 0))]) (v := (a2 + (1 : Int32))) hx hb dX9_timesHeard_31 hl (k := 2) rfl (io_1 _) (Nat.le_of_ble_eq_true rfl) rfl (fun ls hl => ?_)
        refine lv_goto (tgt := 8) hx hb dX9_timesHeard_34 rfl ?_
        exact ih _ _ _ hF _ _ _ (lv_sub hl [2, 1, 0] rfl) hP hS
  refine lv_aload_n hx hb dX9_timesHeard_0 rfl (lv_at hl 0 rfl) ?_
  obtain ⟨q6, hq6, hF⟩ := bd_ok hF
  refine xX9_refresh Z hP hS hq6 wd_20_10 hl.1 (Nat.le_of_ble_eq_true rfl) ⟨Nat.le_of_ble_eq_true rfl, Nat.le_of_ble_eq_true rfl⟩ dX9_timesHeard_1 (fun H locs hP hS => ?_)
  refine lv_iconst (v := (0 : Int32)) hx hb dX9_timesHeard_4 ic_0 ?_
  refine lv_istore_n (lv' := [(1, .int (0 : Int32)), (0, .ref (g.1 0))]) hx hb dX9_timesHeard_5 rfl hl (Nat.le_of_ble_eq_true rfl) rfl (fun ls hl => ?_)
  refine lv_iconst (v := (0 : Int32)) hx hb dX9_timesHeard_6 ic_0 ?_
  refine lv_istore_n (lv' := [(2, .int (0 : Int32)), (1, .int (0 : Int32)), (0, .ref (g.1 0))]) hx hb dX9_timesHeard_7 rfl hl (Nat.le_of_ble_eq_true rfl) rfl (fun ls hl => ?_)
  exact (hL8 FU) _ _ _ hF _ _ _ (lv_sub hl [2, 1, 0] rfl) hP hS
theorem xX9_timesHeard {p : Program} {l : Launch} {e : Env} {R : Room} {s : State} {m : MethodId} {args : Array Value} {below : List Frame} {meth : Method} {c : Code} {H : Heap} {locs : List Loc} {Q : State → Prop} {cc : ByteArray} {nL : Nat} {own : String} {g : GG} {pc index : Nat} {ls : Array Slot} {rest : List Value} {mc mm : Mem} (Z : ZZ p s m args c cc nL own g) (hP : va_P g.2.2.1 vwCl (wL g mc mm) H) (hS : va_S (AA g s.heap.size) s.heap H locs) {q : Int32 × Mem} (hq : F9_timesHeard mc = some q) (hlk : Cond.methodLink own index yX9_timesHeard ∈ wsL_law) (hsz : ls.size = nL) (hro : (rest.map fun v => v.category).sum ≤ 8) (hR : 3 + 1 ≤ R.frames ∧ 8 + (3 + 11) + 77 ≤ R.locals) (hdg : decode cc pc = .ok (.invokevirtual index, 3)) (kk : ∀ (H : Heap) (locs : List Loc), va_P g.2.2.1 vwCl (wL g q.2 mm) H → va_S (AA g s.heap.size) s.heap H locs → W p l e R s m args below meth c H locs 0 0 Q (F0 m (pc + 3) ls (.int q.1 :: rest))) : W p l e R s m args below meth c H locs 0 0 Q (F0 m pc ls (.ref (g.1 0) :: rest)) :=
  x_VI Z hP hS (kX9_timesHeard l g mc mm q hq) (isO_w ck_0) (ci := 9) (by decide) rfl rfl mf_X9_timesHeard mv_X9_timesHeard hlk rfl rfl hsz hro hR hdg kk
theorem dX9_count_0 : decode cX9_count 0 = .ok (.iload_n 1, 1) := by decide +kernel
theorem dX9_count_1 : decode cX9_count 1 = .ok (.tableswitch 121 0 8 #[51, 59, 67, 77, 87, 95, 103, 108, 116], 51) := by decide +kernel
theorem dX9_count_52 : decode cX9_count 52 = .ok (.aload_n 0, 1) := by decide +kernel
theorem dX9_count_53 : decode cX9_count 53 = .ok (.getfield 21, 3) := by decide +kernel
theorem dX9_count_56 : decode cX9_count 56 = .ok (.getfield 119, 3) := by decide +kernel
theorem dX9_count_59 : decode cX9_count 59 = .ok (.ireturn, 1) := by decide +kernel
theorem dX9_count_60 : decode cX9_count 60 = .ok (.aload_n 0, 1) := by decide +kernel
theorem dX9_count_61 : decode cX9_count 61 = .ok (.getfield 28, 3) := by decide +kernel
theorem dX9_count_64 : decode cX9_count 64 = .ok (.getfield 134, 3) := by decide +kernel
theorem dX9_count_67 : decode cX9_count 67 = .ok (.ireturn, 1) := by decide +kernel
theorem dX9_count_68 : decode cX9_count 68 = .ok (.aload_n 0, 1) := by decide +kernel
theorem dX9_count_69 : decode cX9_count 69 = .ok (.getfield 12, 3) := by decide +kernel
theorem dX9_count_72 : decode cX9_count 72 = .ok (.iconst 0, 1) := by decide +kernel
theorem dX9_count_73 : decode cX9_count 73 = .ok (.aaload, 1) := by decide +kernel
theorem dX9_count_74 : decode cX9_count 74 = .ok (.getfield 112, 3) := by decide +kernel
theorem dX9_count_77 : decode cX9_count 77 = .ok (.ireturn, 1) := by decide +kernel
theorem dX9_count_78 : decode cX9_count 78 = .ok (.aload_n 0, 1) := by decide +kernel
theorem dX9_count_79 : decode cX9_count 79 = .ok (.getfield 12, 3) := by decide +kernel
theorem dX9_count_82 : decode cX9_count 82 = .ok (.iconst 1, 1) := by decide +kernel
theorem dX9_count_83 : decode cX9_count 83 = .ok (.aaload, 1) := by decide +kernel
theorem dX9_count_84 : decode cX9_count 84 = .ok (.getfield 112, 3) := by decide +kernel
theorem dX9_count_87 : decode cX9_count 87 = .ok (.ireturn, 1) := by decide +kernel
theorem dX9_count_88 : decode cX9_count 88 = .ok (.aload_n 0, 1) := by decide +kernel
theorem dX9_count_89 : decode cX9_count 89 = .ok (.getfield 35, 3) := by decide +kernel
theorem dX9_count_92 : decode cX9_count 92 = .ok (.getfield 160, 3) := by decide +kernel
theorem dX9_count_95 : decode cX9_count 95 = .ok (.ireturn, 1) := by decide +kernel
theorem dX9_count_96 : decode cX9_count 96 = .ok (.aload_n 0, 1) := by decide +kernel
theorem dX9_count_97 : decode cX9_count 97 = .ok (.invokevirtual 221, 3) := by decide +kernel
theorem dX9_count_100 : decode cX9_count 100 = .ok (.invokestatic 225, 3) := by decide +kernel
theorem dX9_count_103 : decode cX9_count 103 = .ok (.ireturn, 1) := by decide +kernel
theorem dX9_count_104 : decode cX9_count 104 = .ok (.aload_n 0, 1) := by decide +kernel
theorem dX9_count_105 : decode cX9_count 105 = .ok (.invokevirtual 306, 3) := by decide +kernel
theorem dX9_count_108 : decode cX9_count 108 = .ok (.ireturn, 1) := by decide +kernel
theorem dX9_count_109 : decode cX9_count 109 = .ok (.aload_n 0, 1) := by decide +kernel
theorem dX9_count_110 : decode cX9_count 110 = .ok (.getfield 42, 3) := by decide +kernel
theorem dX9_count_113 : decode cX9_count 113 = .ok (.getfield 231, 3) := by decide +kernel
theorem dX9_count_116 : decode cX9_count 116 = .ok (.ireturn, 1) := by decide +kernel
theorem dX9_count_117 : decode cX9_count 117 = .ok (.aload_n 0, 1) := by decide +kernel
theorem dX9_count_118 : decode cX9_count 118 = .ok (.getfield 309, 3) := by decide +kernel
theorem dX9_count_121 : decode cX9_count 121 = .ok (.ireturn, 1) := by decide +kernel
theorem dX9_count_122 : decode cX9_count 122 = .ok (.bipush (-2), 2) := by decide +kernel
theorem dX9_count_124 : decode cX9_count 124 = .ok (.ireturn, 1) := by decide +kernel
noncomputable def F9_count (v1 : Int32) (mc : Mem) : Option (Int32 × Mem) :=
  (if v1 = (0 : Int32) then some ((mc 6 4), mc) else (if v1 = (1 : Int32) then some ((mc 11 5), mc) else (if v1 = (2 : Int32) then some ((mc (2 + 2 * (0 : Int32).toNatClampNeg) 1), mc) else (if v1 = (3 : Int32) then some ((mc (2 + 2 * (1 : Int32).toNatClampNeg) 1), mc) else (if v1 = (4 : Int32) then some ((mc 17 3), mc) else (if v1 = (5 : Int32) then ((F9_gone mc).bind (fun q10 => ((F6_bitCount_0f7a4 q10.1).bind (fun q11 => (some (q11, q10.2)))))) else (if v1 = (6 : Int32) then ((F9_timesHeard mc).bind (fun q13 => (some (q13.1, q13.2)))) else (if v1 = (7 : Int32) then some ((mc 21 3), mc) else (if v1 = (8 : Int32) then some ((mc 0 6), mc) else some ((-2 : Int32), mc))))))))))
set_option maxHeartbeats 4000000 in
set_option maxRecDepth 100000 in
theorem kX9_count (l : Launch) (g : GG) (v1 : Int32) (mc mm : Mem) (q : Int32 × Mem) (hF : F9_count v1 mc = some q) : KI l yX9_count cX9_count 2 .int 4 99 g [.ref (g.1 0), .int v1] mc mm q.1 (q.2, mm) := by
  intro sz
  refine x_start (Qc := fun z => QI g z q.1 (q.2, mm)) (by decide +kernel) (Nat.le_of_ble_eq_true rfl) ?_ sz
  intro p e s m args below meth c ls Z hr hlk hP hl
  have hx := Z.1.1
  have hb := Z.1.2.1
  have hown := Z.1.2.2.2.1
  have hts := Z.1.2.2.2.2
  have hS : va_S (AA g s.heap.size) s.heap s.heap [] := va_S.rf
  have hl : lv_has ls 2 [(0, .ref (g.1 0)), (1, .int v1)] := hl
  unfold F9_count at hF
  refine lv_iload_n hx hb dX9_count_0 rfl (lv_at hl 1 rfl) ?_
  by_cases hc4 : v1 = (0 : Int32)
  · have hF := (if_pos hc4).symm.trans hF
    refine lv_tableIn (off := 51) (tgt := 52) hx hb dX9_count_1 (by rw [hc4]; decide) (by rw [hc4]; decide) (by rw [hc4]; rfl) rfl ?_
    refine lv_aload_n hx hb dX9_count_52 rfl (lv_at hl 0 rfl) ?_
    refine gf9_1 Z hP wd_1_19 dX9_count_53 ?_
    refine gf8_4N Z hP ck_6 nf_2 dX9_count_56 ?_
    exact ret_IWC Z hr hlk hP hS hF dX9_count_59
  have hF := (if_neg hc4).symm.trans hF
  by_cases hc5 : v1 = (1 : Int32)
  · have hF := (if_pos hc5).symm.trans hF
    refine lv_tableIn (off := 59) (tgt := 60) hx hb dX9_count_1 (by rw [hc5]; decide) (by rw [hc5]; decide) (by rw [hc5]; rfl) rfl ?_
    refine lv_aload_n hx hb dX9_count_60 rfl (lv_at hl 0 rfl) ?_
    refine gf9_2 Z hP wd_1_23 dX9_count_61 ?_
    refine gf5_5N Z hP ck_11 nf_7 dX9_count_64 ?_
    exact ret_IWC Z hr hlk hP hS hF dX9_count_67
  have hF := (if_neg hc5).symm.trans hF
  by_cases hc6 : v1 = (2 : Int32)
  · have hF := (if_pos hc6).symm.trans hF
    refine lv_tableIn (off := 67) (tgt := 68) hx hb dX9_count_1 (by rw [hc6]; decide) (by rw [hc6]; decide) (by rw [hc6]; rfl) rfl ?_
    refine lv_aload_n hx hb dX9_count_68 rfl (lv_at hl 0 rfl) ?_
    refine gf9_0 Z hP wd_1_15 dX9_count_69 ?_
    refine lv_iconst (v := (0 : Int32)) hx hb dX9_count_72 ic_0 ?_
    refine rq_22 Z hP (inl (by decide)) dX9_count_73 ?_
    refine gf7_1N Z hP (ir_22 (inl (by decide))) nf_0 dX9_count_74 ?_
    exact ret_IWC Z hr hlk hP hS hF dX9_count_77
  have hF := (if_neg hc6).symm.trans hF
  by_cases hc7 : v1 = (3 : Int32)
  · have hF := (if_pos hc7).symm.trans hF
    refine lv_tableIn (off := 77) (tgt := 78) hx hb dX9_count_1 (by rw [hc7]; decide) (by rw [hc7]; decide) (by rw [hc7]; rfl) rfl ?_
    refine lv_aload_n hx hb dX9_count_78 rfl (lv_at hl 0 rfl) ?_
    refine gf9_0 Z hP wd_1_15 dX9_count_79 ?_
    refine lv_iconst (v := (1 : Int32)) hx hb dX9_count_82 ic_1 ?_
    refine rq_22 Z hP (inl (by decide)) dX9_count_83 ?_
    refine gf7_1N Z hP (ir_22 (inl (by decide))) nf_0 dX9_count_84 ?_
    exact ret_IWC Z hr hlk hP hS hF dX9_count_87
  have hF := (if_neg hc7).symm.trans hF
  by_cases hc8 : v1 = (4 : Int32)
  · have hF := (if_pos hc8).symm.trans hF
    refine lv_tableIn (off := 87) (tgt := 88) hx hb dX9_count_1 (by rw [hc8]; decide) (by rw [hc8]; decide) (by rw [hc8]; rfl) rfl ?_
    refine lv_aload_n hx hb dX9_count_88 rfl (lv_at hl 0 rfl) ?_
    refine gf9_3 Z hP wd_2_3 dX9_count_89 ?_
    refine gf2_3N Z hP ck_17 nf_12 dX9_count_92 ?_
    exact ret_IWC Z hr hlk hP hS hF dX9_count_95
  have hF := (if_neg hc8).symm.trans hF
  by_cases hc9 : v1 = (5 : Int32)
  · have hF := (if_pos hc9).symm.trans hF
    refine lv_tableIn (off := 95) (tgt := 96) hx hb dX9_count_1 (by rw [hc9]; decide) (by rw [hc9]; decide) (by rw [hc9]; rfl) rfl ?_
    refine lv_aload_n hx hb dX9_count_96 rfl (lv_at hl 0 rfl) ?_
    obtain ⟨q10, hq10, hF⟩ := bd_ok hF
    refine xX9_gone Z hP hS hq10 wd_31_5 hl.1 (Nat.le_of_ble_eq_true rfl) ⟨Nat.le_of_ble_eq_true rfl, Nat.le_of_ble_eq_true rfl⟩ dX9_count_97 (fun H locs hP hS => ?_)
    obtain ⟨q11, hq11, hF⟩ := bd_ok hF
    refine xJ6_bitCount_0f7a4 Z hP hS hq11 wd_31_6 hl.1 (Nat.le_of_ble_eq_true rfl) ⟨Nat.le_of_ble_eq_true rfl, Nat.le_of_ble_eq_true rfl⟩ dX9_count_100 (fun H locs hP hS => ?_)
    exact ret_IWC Z hr hlk hP hS hF dX9_count_103
  have hF := (if_neg hc9).symm.trans hF
  by_cases hc12 : v1 = (6 : Int32)
  · have hF := (if_pos hc12).symm.trans hF
    refine lv_tableIn (off := 103) (tgt := 104) hx hb dX9_count_1 (by rw [hc12]; decide) (by rw [hc12]; decide) (by rw [hc12]; rfl) rfl ?_
    refine lv_aload_n hx hb dX9_count_104 rfl (lv_at hl 0 rfl) ?_
    obtain ⟨q13, hq13, hF⟩ := bd_ok hF
    refine xX9_timesHeard Z hP hS hq13 wd_42_18 hl.1 (Nat.le_of_ble_eq_true rfl) ⟨Nat.le_of_ble_eq_true rfl, Nat.le_of_ble_eq_true rfl⟩ dX9_count_105 (fun H locs hP hS => ?_)
    exact ret_IWC Z hr hlk hP hS hF dX9_count_108
  have hF := (if_neg hc12).symm.trans hF
  by_cases hc14 : v1 = (7 : Int32)
  · have hF := (if_pos hc14).symm.trans hF
    refine lv_tableIn (off := 108) (tgt := 109) hx hb dX9_count_1 (by rw [hc14]; decide) (by rw [hc14]; decide) (by rw [hc14]; rfl) rfl ?_
    refine lv_aload_n hx hb dX9_count_109 rfl (lv_at hl 0 rfl) ?_
    refine gf9_4 Z hP wd_2_7 dX9_count_110 ?_
    refine gf1_3N Z hP ck_21 nf_20 dX9_count_113 ?_
    exact ret_IWC Z hr hlk hP hS hF dX9_count_116
  have hF := (if_neg hc14).symm.trans hF
  by_cases hc15 : v1 = (8 : Int32)
  · have hF := (if_pos hc15).symm.trans hF
    refine lv_tableIn (off := 116) (tgt := 117) hx hb dX9_count_1 (by rw [hc15]; decide) (by rw [hc15]; decide) (by rw [hc15]; rfl) rfl ?_
    refine lv_aload_n hx hb dX9_count_117 rfl (lv_at hl 0 rfl) ?_
    refine gf9_6 Z hP wd_19_12 dX9_count_118 ?_
    exact ret_IWC Z hr hlk hP hS hF dX9_count_121
  have hF := (if_neg hc15).symm.trans hF
  refine lv_tableOut (tgt := 122) hx hb dX9_count_1 (sw_9 hc4 hc5 hc6 hc7 hc8 hc9 hc12 hc14 hc15) rfl ?_
  refine lv_bipush (v := (-2 : Int32)) hx hb dX9_count_122 bp_m2 ?_
  exact ret_IWC Z hr hlk hP hS hF dX9_count_124
theorem xX9_count {p : Program} {l : Launch} {e : Env} {R : Room} {s : State} {m : MethodId} {args : Array Value} {below : List Frame} {meth : Method} {c : Code} {H : Heap} {locs : List Loc} {Q : State → Prop} {cc : ByteArray} {nL : Nat} {own : String} {g : GG} {pc index : Nat} {ls : Array Slot} {rest : List Value} {mc mm : Mem} (Z : ZZ p s m args c cc nL own g) (hP : va_P g.2.2.1 vwCl (wL g mc mm) H) (hS : va_S (AA g s.heap.size) s.heap H locs) {v1 : Int32} {q : Int32 × Mem} (hq : F9_count v1 mc = some q) (hlk : Cond.methodLink own index yX9_count ∈ wsL_law) (hsz : ls.size = nL) (hro : (rest.map fun v => v.category).sum ≤ 8) (hR : 4 + 1 ≤ R.frames ∧ 8 + (2 + 11) + 99 ≤ R.locals) (hdg : decode cc pc = .ok (.invokevirtual index, 3)) (kk : ∀ (H : Heap) (locs : List Loc), va_P g.2.2.1 vwCl (wL g q.2 mm) H → va_S (AA g s.heap.size) s.heap H locs → W p l e R s m args below meth c H locs 0 0 Q (F0 m (pc + 3) ls (.int q.1 :: rest))) : W p l e R s m args below meth c H locs 0 0 Q (F0 m pc ls (.int v1 :: .ref (g.1 0) :: rest)) :=
  x_VI Z hP hS (kX9_count l g v1 mc mm q hq) (isO_w ck_0) (ci := 9) (by decide) rfl rfl mf_X9_count mv_X9_count hlk rfl rfl hsz hro hR hdg kk

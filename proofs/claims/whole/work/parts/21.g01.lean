theorem dX8_stay_0 : decode cX8_stay 0 = .ok (.iload_n 1, 1) := by decide +kernel
theorem dX8_stay_1 : decode cX8_stay 1 = .ok (.ifCond .lt 25, 3) := by decide +kernel
theorem dX8_stay_4 : decode cX8_stay 4 = .ok (.iload_n 1, 1) := by decide +kernel
theorem dX8_stay_5 : decode cX8_stay 5 = .ok (.aload_n 0, 1) := by decide +kernel
theorem dX8_stay_6 : decode cX8_stay 6 = .ok (.getfield 28, 3) := by decide +kernel
theorem dX8_stay_9 : decode cX8_stay 9 = .ok (.if_icmp .ge 17, 3) := by decide +kernel
theorem dX8_stay_12 : decode cX8_stay 12 = .ok (.aload_n 0, 1) := by decide +kernel
theorem dX8_stay_13 : decode cX8_stay 13 = .ok (.getfield 9, 3) := by decide +kernel
theorem dX8_stay_16 : decode cX8_stay 16 = .ok (.iload_n 1, 1) := by decide +kernel
theorem dX8_stay_17 : decode cX8_stay 17 = .ok (.iaload, 1) := by decide +kernel
theorem dX8_stay_18 : decode cX8_stay 18 = .ok (.iconst 2, 1) := by decide +kernel
theorem dX8_stay_19 : decode cX8_stay 19 = .ok (.if_icmp .ne 7, 3) := by decide +kernel
theorem dX8_stay_22 : decode cX8_stay 22 = .ok (.iconst 2, 1) := by decide +kernel
theorem dX8_stay_23 : decode cX8_stay 23 = .ok (.goto 4, 3) := by decide +kernel
theorem dX8_stay_26 : decode cX8_stay 26 = .ok (.iconst 1, 1) := by decide +kernel
theorem dX8_stay_27 : decode cX8_stay 27 = .ok (.ireturn, 1) := by decide +kernel
noncomputable def F8_stay_b26 (v0 : Nat) (v1 : Int32) (mc : Mem) : Option (Int32) :=
  some (1 : Int32)
noncomputable def F8_stay (v0 : Nat) (v1 : Int32) (mc : Mem) : Option (Int32) :=
  (if v1 < (0 : Int32) then (F8_stay_b26 v0 v1 mc) else (if (mc v0 4) ≤ v1 then (F8_stay_b26 v0 v1 mc) else (ck v1 8 (if (mc (v0 + 1) v1.toNatClampNeg) = (2 : Int32) then some (2 : Int32) else (F8_stay_b26 v0 v1 mc)))))
set_option maxHeartbeats 4000000 in
set_option maxRecDepth 100000 in
theorem kX8_stay (l : Launch) (g : GG) (v0 : Nat) (v1 : Int32) (h0 : isO 8 v0) (mc mm : Mem) (q : Int32) (hF : F8_stay v0 v1 mc = some q) : KI l yX8_stay cX8_stay 2 .int 0 0 g [.ref (g.1 v0), .int v1] mc mm q (mc, mm) := by
  intro sz
  refine x_start (Qc := fun z => QI g z q (mc, mm)) (by decide +kernel) (Nat.le_of_ble_eq_true rfl) ?_ sz
  intro p e s m args below meth c ls Z hr hlk hP hl
  have hx := Z.1.1
  have hb := Z.1.2.1
  have hown := Z.1.2.2.2.1
  have hts := Z.1.2.2.2.2
  have hS : va_S (AA g s.heap.size) s.heap s.heap [] := va_S.rf
  have hl : lv_has ls 2 [(0, .ref (g.1 v0)), (1, .int v1)] := hl
  unfold F8_stay at hF
  have hb26 : F8_stay_b26 v0 v1 mc = some q → ∀ (H : Heap) (locs : List Loc) (ls : Array Slot), lv_has ls 2 [] → va_P g.2.2.1 vwCl (wL g mc mm) H → va_S (AA g s.heap.size) s.heap H locs → W p l e { frames := 0, cells := 0, slots := 0, locals := 0 } s m args below meth c H locs 0 0 (MQ below (QI g s.heap.size q (mc, mm)) args s 0 0 (AA g s.heap.size)) (F0 m 26 ls []) := by
    intro hF H locs ls hl hP hS
    unfold F8_stay_b26 at hF
    refine lv_iconst (v := (1 : Int32)) hx hb dX8_stay_26 ic_1 ?_
    exact ret_I Z hr hlk hP hS hF dX8_stay_27
  refine lv_iload_n hx hb dX8_stay_0 rfl (lv_at hl 1 rfl) ?_
  refine lv_if_lt (tgt := 26) hx hb dX8_stay_1 rfl (fun hc => ?_) (fun hc => ?_)
  · have hF := (if_pos hc).symm.trans hF
    exact hb26  hF _ _ _ (lv_sub hl [] rfl) hP hS
  · have hF := (if_neg hc).symm.trans hF
    refine lv_iload_n hx hb dX8_stay_4 rfl (lv_at hl 1 rfl) ?_
    refine lv_aload_n hx hb dX8_stay_5 rfl (lv_at hl 0 rfl) ?_
    refine gf8_4 Z hP h0 wd_7_23 dX8_stay_6 ?_
    refine lv_icmp_ge (tgt := 26) hx hb dX8_stay_9 rfl (fun hc => ?_) (fun hc => ?_)
    · have hF := (if_pos hc).symm.trans hF
      exact hb26  hF _ _ _ (lv_sub hl [] rfl) hP hS
    · have hF := (if_neg hc).symm.trans hF
      refine lv_aload_n hx hb dX8_stay_12 rfl (lv_at hl 0 rfl) ?_
      refine gf8_0 Z hP h0 wd_3_22 dX8_stay_13 ?_
      refine lv_iload_n hx hb dX8_stay_16 rfl (lv_at hl 1 rfl) ?_
      obtain ⟨hi2, hF⟩ := ck_ok hF
      refine ra_ld Z hP (ia_8_0 h0) hi2 dX8_stay_17 ?_
      refine lv_iconst (v := (2 : Int32)) hx hb dX8_stay_18 ic_2 ?_
      refine lv_icmp_ne (tgt := 26) hx hb dX8_stay_19 rfl (fun hc => ?_) (fun hc => ?_)
      · have hF := (if_neg hc).symm.trans hF
        exact hb26  hF _ _ _ (lv_sub hl [] rfl) hP hS
      · have hF := (if_pos hc).symm.trans hF
        refine lv_iconst (v := (2 : Int32)) hx hb dX8_stay_22 ic_2 ?_
        refine lv_goto (tgt := 27) hx hb dX8_stay_23 rfl ?_
        exact ret_I Z hr hlk hP hS hF dX8_stay_27
theorem xX8_stay {p : Program} {l : Launch} {e : Env} {R : Room} {s : State} {m : MethodId} {args : Array Value} {below : List Frame} {meth : Method} {c : Code} {H : Heap} {locs : List Loc} {Q : State → Prop} {cc : ByteArray} {nL : Nat} {own : String} {g : GG} {pc index : Nat} {ls : Array Slot} {rest : List Value} {mc mm : Mem} (Z : ZZ p s m args c cc nL own g) (hP : va_P g.2.2.1 vwCl (wL g mc mm) H) (hS : va_S (AA g s.heap.size) s.heap H locs) {v0 : Nat} {v1 : Int32} (h0 : isO 8 v0) {q : Int32} (hq : F8_stay v0 v1 mc = some q) (hlk : Cond.methodLink own index yX8_stay ∈ wsL_law) (hsz : ls.size = nL) (hro : (rest.map fun v => v.category).sum ≤ 8) (hR : 0 + 1 ≤ R.frames ∧ 8 + (2 + 11) + 0 ≤ R.locals) (hdg : decode cc pc = .ok (.invokevirtual index, 3)) (kk : ∀ (H : Heap) (locs : List Loc), va_P g.2.2.1 vwCl (wL g mc mm) H → va_S (AA g s.heap.size) s.heap H locs → W p l e R s m args below meth c H locs 0 0 Q (F0 m (pc + 3) ls (.int q :: rest))) : W p l e R s m args below meth c H locs 0 0 Q (F0 m pc ls (.int v1 :: .ref (g.1 v0) :: rest)) :=
  x_VI Z hP hS (kX8_stay l g v0 v1 h0 mc mm q hq) (isO_w h0) (ci := 8) (by decide) rfl rfl mf_X8_stay mv_X8_stay hlk rfl rfl hsz hro hR hdg kk
theorem dX4_next_0 : decode cX4_next 0 = .ok (.aload_n 2, 1) := by decide +kernel
theorem dX4_next_1 : decode cX4_next 1 = .ok (.getfield 48, 3) := by decide +kernel
theorem dX4_next_4 : decode cX4_next 4 = .ok (.iload_n 3, 1) := by decide +kernel
theorem dX4_next_5 : decode cX4_next 5 = .ok (.iaload, 1) := by decide +kernel
theorem dX4_next_6 : decode cX4_next 6 = .ok (.istore 4, 2) := by decide +kernel
theorem dX4_next_8 : decode cX4_next 8 = .ok (.aload_n 2, 1) := by decide +kernel
theorem dX4_next_9 : decode cX4_next 9 = .ok (.getfield 80, 3) := by decide +kernel
theorem dX4_next_12 : decode cX4_next 12 = .ok (.iload_n 3, 1) := by decide +kernel
theorem dX4_next_13 : decode cX4_next 13 = .ok (.baload, 1) := by decide +kernel
theorem dX4_next_14 : decode cX4_next 14 = .ok (.ifCond .eq 36, 3) := by decide +kernel
theorem dX4_next_17 : decode cX4_next 17 = .ok (.aload_n 0, 1) := by decide +kernel
theorem dX4_next_18 : decode cX4_next 18 = .ok (.getfield 24, 3) := by decide +kernel
theorem dX4_next_21 : decode cX4_next 21 = .ok (.aload_n 1, 1) := by decide +kernel
theorem dX4_next_22 : decode cX4_next 22 = .ok (.getfield 84, 3) := by decide +kernel
theorem dX4_next_25 : decode cX4_next 25 = .ok (.if_icmp .eq 25, 3) := by decide +kernel
theorem dX4_next_28 : decode cX4_next 28 = .ok (.iload 4, 2) := by decide +kernel
theorem dX4_next_30 : decode cX4_next 30 = .ok (.aload_n 1, 1) := by decide +kernel
theorem dX4_next_31 : decode cX4_next 31 = .ok (.getfield 84, 3) := by decide +kernel
theorem dX4_next_34 : decode cX4_next 34 = .ok (.ishr, 1) := by decide +kernel
theorem dX4_next_35 : decode cX4_next 35 = .ok (.iconst 1, 1) := by decide +kernel
theorem dX4_next_36 : decode cX4_next 36 = .ok (.iand, 1) := by decide +kernel
theorem dX4_next_37 : decode cX4_next 37 = .ok (.iconst 1, 1) := by decide +kernel
theorem dX4_next_38 : decode cX4_next 38 = .ok (.if_icmp .ne 7, 3) := by decide +kernel
theorem dX4_next_41 : decode cX4_next 41 = .ok (.iconst (-1), 1) := by decide +kernel
theorem dX4_next_42 : decode cX4_next 42 = .ok (.goto 7, 3) := by decide +kernel
theorem dX4_next_45 : decode cX4_next 45 = .ok (.aload_n 1, 1) := by decide +kernel
theorem dX4_next_46 : decode cX4_next 46 = .ok (.getfield 84, 3) := by decide +kernel
theorem dX4_next_49 : decode cX4_next 49 = .ok (.ireturn, 1) := by decide +kernel
theorem dX4_next_50 : decode cX4_next 50 = .ok (.iload_n 3, 1) := by decide +kernel
theorem dX4_next_51 : decode cX4_next 51 = .ok (.aload_n 0, 1) := by decide +kernel
theorem dX4_next_52 : decode cX4_next 52 = .ok (.getfield 63, 3) := by decide +kernel
theorem dX4_next_55 : decode cX4_next 55 = .ok (.if_icmp .eq 8, 3) := by decide +kernel
theorem dX4_next_58 : decode cX4_next 58 = .ok (.aload_n 0, 1) := by decide +kernel
theorem dX4_next_59 : decode cX4_next 59 = .ok (.getfield 24, 3) := by decide +kernel
theorem dX4_next_62 : decode cX4_next 62 = .ok (.ireturn, 1) := by decide +kernel
theorem dX4_next_63 : decode cX4_next 63 = .ok (.aload_n 2, 1) := by decide +kernel
theorem dX4_next_64 : decode cX4_next 64 = .ok (.getfield 87, 3) := by decide +kernel
theorem dX4_next_67 : decode cX4_next 67 = .ok (.iload_n 3, 1) := by decide +kernel
theorem dX4_next_68 : decode cX4_next 68 = .ok (.iaload, 1) := by decide +kernel
theorem dX4_next_69 : decode cX4_next 69 = .ok (.aload_n 0, 1) := by decide +kernel
theorem dX4_next_70 : decode cX4_next 70 = .ok (.getfield 24, 3) := by decide +kernel
theorem dX4_next_73 : decode cX4_next 73 = .ok (.ishr, 1) := by decide +kernel
theorem dX4_next_74 : decode cX4_next 74 = .ok (.iconst 1, 1) := by decide +kernel
theorem dX4_next_75 : decode cX4_next 75 = .ok (.iand, 1) := by decide +kernel
theorem dX4_next_76 : decode cX4_next 76 = .ok (.iconst 1, 1) := by decide +kernel
theorem dX4_next_77 : decode cX4_next 77 = .ok (.if_icmp .ne 10, 3) := by decide +kernel
theorem dX4_next_80 : decode cX4_next 80 = .ok (.aload_n 1, 1) := by decide +kernel
theorem dX4_next_81 : decode cX4_next 81 = .ok (.getfield 90, 3) := by decide +kernel
theorem dX4_next_84 : decode cX4_next 84 = .ok (.goto 7, 3) := by decide +kernel
theorem dX4_next_87 : decode cX4_next 87 = .ok (.aload_n 1, 1) := by decide +kernel
theorem dX4_next_88 : decode cX4_next 88 = .ok (.getfield 93, 3) := by decide +kernel
theorem dX4_next_91 : decode cX4_next 91 = .ok (.astore 5, 2) := by decide +kernel
theorem dX4_next_93 : decode cX4_next 93 = .ok (.aload 5, 2) := by decide +kernel
theorem dX4_next_95 : decode cX4_next 95 = .ok (.aload_n 0, 1) := by decide +kernel
theorem dX4_next_96 : decode cX4_next 96 = .ok (.getfield 24, 3) := by decide +kernel
theorem dX4_next_99 : decode cX4_next 99 = .ok (.iaload, 1) := by decide +kernel
theorem dX4_next_100 : decode cX4_next 100 = .ok (.istore 6, 2) := by decide +kernel
theorem dX4_next_102 : decode cX4_next 102 = .ok (.iload 6, 2) := by decide +kernel
theorem dX4_next_104 : decode cX4_next 104 = .ok (.iconst (-1), 1) := by decide +kernel
theorem dX4_next_105 : decode cX4_next 105 = .ok (.if_icmp .ne 8, 3) := by decide +kernel
theorem dX4_next_108 : decode cX4_next 108 = .ok (.aload_n 0, 1) := by decide +kernel
theorem dX4_next_109 : decode cX4_next 109 = .ok (.getfield 24, 3) := by decide +kernel
theorem dX4_next_112 : decode cX4_next 112 = .ok (.ireturn, 1) := by decide +kernel
theorem dX4_next_113 : decode cX4_next 113 = .ok (.iconst 0, 1) := by decide +kernel
theorem dX4_next_114 : decode cX4_next 114 = .ok (.istore 7, 2) := by decide +kernel
theorem dX4_next_116 : decode cX4_next 116 = .ok (.iload 7, 2) := by decide +kernel
theorem dX4_next_118 : decode cX4_next 118 = .ok (.bipush 8, 2) := by decide +kernel
theorem dX4_next_120 : decode cX4_next 120 = .ok (.if_icmp .ge 33, 3) := by decide +kernel
theorem dX4_next_123 : decode cX4_next 123 = .ok (.iload 6, 2) := by decide +kernel
theorem dX4_next_125 : decode cX4_next 125 = .ok (.iconst (-1), 1) := by decide +kernel
theorem dX4_next_126 : decode cX4_next 126 = .ok (.if_icmp .eq 27, 3) := by decide +kernel
theorem dX4_next_129 : decode cX4_next 129 = .ok (.iload 4, 2) := by decide +kernel
theorem dX4_next_131 : decode cX4_next 131 = .ok (.iload 6, 2) := by decide +kernel
theorem dX4_next_133 : decode cX4_next 133 = .ok (.ishr, 1) := by decide +kernel
theorem dX4_next_134 : decode cX4_next 134 = .ok (.iconst 1, 1) := by decide +kernel
theorem dX4_next_135 : decode cX4_next 135 = .ok (.iand, 1) := by decide +kernel
theorem dX4_next_136 : decode cX4_next 136 = .ok (.iconst 1, 1) := by decide +kernel
theorem dX4_next_137 : decode cX4_next 137 = .ok (.if_icmp .ne 16, 3) := by decide +kernel
theorem dX4_next_140 : decode cX4_next 140 = .ok (.aload 5, 2) := by decide +kernel
theorem dX4_next_142 : decode cX4_next 142 = .ok (.iload 6, 2) := by decide +kernel
theorem dX4_next_144 : decode cX4_next 144 = .ok (.iaload, 1) := by decide +kernel
theorem dX4_next_145 : decode cX4_next 145 = .ok (.istore 6, 2) := by decide +kernel
theorem dX4_next_147 : decode cX4_next 147 = .ok (.iinc 7 1, 3) := by decide +kernel
theorem dX4_next_150 : decode cX4_next 150 = .ok (.goto (-34), 3) := by decide +kernel
theorem dX4_next_153 : decode cX4_next 153 = .ok (.iload 6, 2) := by decide +kernel
theorem dX4_next_155 : decode cX4_next 155 = .ok (.ireturn, 1) := by decide +kernel
noncomputable def F4_next_p116 (kh : Int32 → Nat → Int32 → Int32 → Option (Int32)) (v0 : Nat) (v1 : Nat) (v2 : Nat) (v3 : Int32) (mc : Mem) (a4 : Int32) (a5 : Nat) (a6 : Int32) (a7 : Int32) : Option (Int32) :=
  (if (8 : Int32) ≤ a7 then some a6 else (if a6 = (-1 : Int32) then some a6 else (if ((a4 >>> (a6 &&& (31 : Int32))) &&& (1 : Int32)) = (1 : Int32) then (ck a6 8 (kh a4 a5 (mc a5 a6.toNatClampNeg) (a7 + (1 : Int32)))) else some a6)))
noncomputable def F4_next_h116 (v0 : Nat) (v1 : Nat) (v2 : Nat) (v3 : Int32) (mc : Mem) : Nat → Int32 → Nat → Int32 → Int32 → Option (Int32)
  | 0, _, _, _, _ => none
  | n + 1, a4, a5, a6, a7 => F4_next_p116 (F4_next_h116 v0 v1 v2 v3 mc n) v0 v1 v2 v3 mc a4 a5 a6 a7
noncomputable def F4_next_b91 (v0 : Nat) (v1 : Nat) (v2 : Nat) (v3 : Int32) (mc : Mem) (a4 : Int32) (s0 : Nat) : Option (Int32) :=
  (ck (mc v0 5) 8 (if (mc s0 (mc v0 5).toNatClampNeg) = (-1 : Int32) then some (mc v0 5) else (F4_next_h116 v0 v1 v2 v3 mc FU) a4 s0 (mc s0 (mc v0 5).toNatClampNeg) (0 : Int32)))
noncomputable def F4_next_b50 (v0 : Nat) (v1 : Nat) (v2 : Nat) (v3 : Int32) (mc : Mem) (a4 : Int32) : Option (Int32) :=
  (if v3 = (mc v0 6) then (ck v3 40 (if (((mc (v2 + 1) v3.toNatClampNeg) >>> ((mc v0 5) &&& (31 : Int32))) &&& (1 : Int32)) = (1 : Int32) then (F4_next_b91 v0 v1 v2 v3 mc) a4 (v1 + 4) else (F4_next_b91 v0 v1 v2 v3 mc) a4 (v1 + 3))) else some (mc v0 5))
noncomputable def F4_next (v0 : Nat) (v1 : Nat) (v2 : Nat) (v3 : Int32) (mc : Mem) : Option (Int32) :=
  (ck v3 40 (ck v3 40 (if (mc (v2 + 3) v3.toNatClampNeg) = (0 : Int32) then (F4_next_b50 v0 v1 v2 v3 mc) (mc (v2 + 2) v3.toNatClampNeg) else (if (mc v0 5) = (mc v1 5) then (F4_next_b50 v0 v1 v2 v3 mc) (mc (v2 + 2) v3.toNatClampNeg) else (if (((mc (v2 + 2) v3.toNatClampNeg) >>> ((mc v1 5) &&& (31 : Int32))) &&& (1 : Int32)) = (1 : Int32) then some (-1 : Int32) else some (mc v1 5))))))
set_option maxHeartbeats 4000000 in
set_option maxRecDepth 100000 in
theorem kX4_next (l : Launch) (g : GG) (v0 : Nat) (v1 : Nat) (v2 : Nat) (v3 : Int32) (h0 : isO 4 v0) (h1 : isO 8 v1) (h2 : isO 3 v2) (mc mm : Mem) (q : Int32) (hF : F4_next v0 v1 v2 v3 mc = some q) : KI l yX4_next cX4_next 8 .int 0 0 g [.ref (g.1 v0), .ref (g.1 v1), .ref (g.1 v2), .int v3] mc mm q (mc, mm) := by
  intro sz
  refine x_start (Qc := fun z => QI g z q (mc, mm)) (by decide +kernel) (Nat.le_of_ble_eq_true rfl) ?_ sz
  intro p e s m args below meth c ls Z hr hlk hP hl
  have hx := Z.1.1
  have hb := Z.1.2.1
  have hown := Z.1.2.2.2.1
  have hts := Z.1.2.2.2.2
  have hS : va_S (AA g s.heap.size) s.heap s.heap [] := va_S.rf
  have hl : lv_has ls 8 [(0, .ref (g.1 v0)), (1, .ref (g.1 v1)), (2, .ref (g.1 v2)), (3, .int v3)] := hl
  unfold F4_next at hF
  have hL116 : ∀ n : Nat, ∀ (a4 : Int32) (a5 : Nat) (a6 : Int32) (a7 : Int32), F4_next_h116 v0 v1 v2 v3 mc n a4 a5 a6 a7 = some q → isA 8 a5 → ∀ (H : Heap) (locs : List Loc) (ls : Array Slot), lv_has ls 8 [(4, .int a4), (5, .ref (g.1 a5)), (6, .int a6), (7, .int a7)] → va_P g.2.2.1 vwCl (wL g mc mm) H → va_S (AA g s.heap.size) s.heap H locs → W p l e { frames := 0, cells := 0, slots := 0, locals := 0 } s m args below meth c H locs 0 0 (MQ below (QI g s.heap.size q (mc, mm)) args s 0 0 (AA g s.heap.size)) (F0 m 116 ls []) := by
    intro n
    induction n with
    | zero => intro a4 a5 a6 a7 hF h_a5 H locs ls hl hP hS; exact absurd hF (fun z => nomatch (show (none : Option _) = some q from z))
    | succ n ih =>
      generalize hkh : F4_next_h116 v0 v1 v2 v3 mc n = kh at ih
      intro a4 a5 a6 a7 hF h_a5 H locs ls hl hP hS
      have hF : F4_next_p116 (F4_next_h116 v0 v1 v2 v3 mc n) v0 v1 v2 v3 mc a4 a5 a6 a7 = some q := hF
      rw [hkh] at hF
      unfold F4_next_p116 at hF
      refine lv_iload hx hb dX4_next_116 (lv_at hl 3 rfl) ?_
      refine lv_bipush (v := (8 : Int32)) hx hb dX4_next_118 bp_8 ?_
      refine lv_icmp_ge (tgt := 153) hx hb dX4_next_120 rfl (fun hc => ?_) (fun hc => ?_)
      · have hF := (if_pos hc).symm.trans hF
        refine lv_iload hx hb dX4_next_153 (lv_at hl 2 rfl) ?_
        exact ret_I Z hr hlk hP hS hF dX4_next_155
      · have hF := (if_neg hc).symm.trans hF
        refine lv_iload hx hb dX4_next_123 (lv_at hl 2 rfl) ?_
        refine lv_iconst (v := (-1 : Int32)) hx hb dX4_next_125 ic_m1 ?_
        refine lv_icmp_eq (tgt := 153) hx hb dX4_next_126 rfl (fun hc => ?_) (fun hc => ?_)
        · have hF := (if_pos hc).symm.trans hF
          refine lv_iload hx hb dX4_next_153 (lv_at hl 2 rfl) ?_
          exact ret_I Z hr hlk hP hS hF dX4_next_155
        · have hF := (if_neg hc).symm.trans hF
          refine lv_iload hx hb dX4_next_129 (lv_at hl 0 rfl) ?_
          refine lv_iload hx hb dX4_next_131 (lv_at hl 2 rfl) ?_
          refine lv_ishr hx hb dX4_next_133 ?_
          refine lv_iconst (v := (1 : Int32)) hx hb dX4_next_134 ic_1 ?_
          refine lv_iand hx hb dX4_next_135 ?_
          refine lv_iconst (v := (1 : Int32)) hx hb dX4_next_136 ic_1 ?_
          refine lv_icmp_ne (tgt := 153) hx hb dX4_next_137 rfl (fun hc => ?_) (fun hc => ?_)
          · have hF := (if_neg hc).symm.trans hF
            refine lv_iload hx hb dX4_next_153 (lv_at hl 2 rfl) ?_
            exact ret_I Z hr hlk hP hS hF dX4_next_155
          · have hF := (if_pos hc).symm.trans hF
            refine lv_aload hx hb dX4_next_140 (lv_at hl 1 rfl) ?_
            refine lv_iload hx hb dX4_next_142 (lv_at hl 2 rfl) ?_
            obtain ⟨hi6, hF⟩ := ck_ok hF
            refine ra_ld Z hP h_a5 hi6 dX4_next_144 ?_
            refine lv_istore (lv' := [(6, .int (mc a5 a6.toNatClampNeg)), (4, .int a4), (5, .ref (g.1 a5)), (7, .int a7)]) hx hb dX4_next_145 hl (Nat.le_of_ble_eq_true rfl) rfl (fun ls hl => ?_)
            refine lv_iinc (lv' := [(7, .int (a7 + (1 : Int32))), (6, .int (mc a5 a6.toNatClampNeg)), (4, .int a4), (5, .ref (g.1 a5))]) (v := (a7 + (1 : Int32))) hx hb dX4_next_147 hl (k := 3) rfl (io_1 _) (Nat.le_of_ble_eq_true rfl) rfl (fun ls hl => ?_)
            refine lv_goto (tgt := 116) hx hb dX4_next_150 rfl ?_
            exact ih _ _ _ _ hF h_a5 _ _ _ (lv_sub hl [2, 3, 1, 0] rfl) hP hS
  have hb91 : ∀ (a4 : Int32) (s0 : Nat), F4_next_b91 v0 v1 v2 v3 mc a4 s0 = some q → isA 8 s0 → ∀ (H : Heap) (locs : List Loc) (ls : Array Slot), lv_has ls 8 [(0, .ref (g.1 v0)), (4, .int a4)] → va_P g.2.2.1 vwCl (wL g mc mm) H → va_S (AA g s.heap.size) s.heap H locs → W p l e { frames := 0, cells := 0, slots := 0, locals := 0 } s m args below meth c H locs 0 0 (MQ below (QI g s.heap.size q (mc, mm)) args s 0 0 (AA g s.heap.size)) (F0 m 91 ls [.ref (g.1 s0)]) := by
    intro a4 s0 hF h_s0 H locs ls hl hP hS
    unfold F4_next_b91 at hF
    refine lv_astore (lv' := [(5, .ref (g.1 s0)), (0, .ref (g.1 v0)), (4, .int a4)]) hx hb dX4_next_91 hl (Nat.le_of_ble_eq_true rfl) rfl (fun ls hl => ?_)
    refine lv_aload hx hb dX4_next_93 (lv_at hl 0 rfl) ?_
    refine lv_aload_n hx hb dX4_next_95 rfl (lv_at hl 1 rfl) ?_
    refine gf4_5 Z hP h0 wd_21_2 dX4_next_96 ?_
    obtain ⟨hi7, hF⟩ := ck_ok hF
    refine ra_ld Z hP h_s0 hi7 dX4_next_99 ?_
    refine lv_istore (lv' := [(6, .int (mc s0 (mc v0 5).toNatClampNeg)), (5, .ref (g.1 s0)), (0, .ref (g.1 v0)), (4, .int a4)]) hx hb dX4_next_100 hl (Nat.le_of_ble_eq_true rfl) rfl (fun ls hl => ?_)
    refine lv_iload hx hb dX4_next_102 (lv_at hl 0 rfl) ?_
    refine lv_iconst (v := (-1 : Int32)) hx hb dX4_next_104 ic_m1 ?_
    refine lv_icmp_ne (tgt := 113) hx hb dX4_next_105 rfl (fun hc => ?_) (fun hc => ?_)
    · have hF := (if_neg hc).symm.trans hF
      refine lv_iconst (v := (0 : Int32)) hx hb dX4_next_113 ic_0 ?_
      refine lv_istore (lv' := [(7, .int (0 : Int32)), (6, .int (mc s0 (mc v0 5).toNatClampNeg)), (5, .ref (g.1 s0)), (0, .ref (g.1 v0)), (4, .int a4)]) hx hb dX4_next_114 hl (Nat.le_of_ble_eq_true rfl) rfl (fun ls hl => ?_)
      exact (hL116 FU) _ _ _ _ hF h_s0 _ _ _ (lv_sub hl [4, 2, 1, 0] rfl) hP hS
    · have hF := (if_pos hc).symm.trans hF
      refine lv_aload_n hx hb dX4_next_108 rfl (lv_at hl 2 rfl) ?_
      refine gf4_5 Z hP h0 wd_21_2 dX4_next_109 ?_
      exact ret_I Z hr hlk hP hS hF dX4_next_112
  have hb50 : ∀ (a4 : Int32), F4_next_b50 v0 v1 v2 v3 mc a4 = some q → ∀ (H : Heap) (locs : List Loc) (ls : Array Slot), lv_has ls 8 [(0, .ref (g.1 v0)), (1, .ref (g.1 v1)), (2, .ref (g.1 v2)), (3, .int v3), (4, .int a4)] → va_P g.2.2.1 vwCl (wL g mc mm) H → va_S (AA g s.heap.size) s.heap H locs → W p l e { frames := 0, cells := 0, slots := 0, locals := 0 } s m args below meth c H locs 0 0 (MQ below (QI g s.heap.size q (mc, mm)) args s 0 0 (AA g s.heap.size)) (F0 m 50 ls []) := by
    intro a4 hF H locs ls hl hP hS
    unfold F4_next_b50 at hF
    refine lv_iload_n hx hb dX4_next_50 rfl (lv_at hl 3 rfl) ?_
    refine lv_aload_n hx hb dX4_next_51 rfl (lv_at hl 0 rfl) ?_
    refine gf4_6 Z hP h0 wd_21_7 dX4_next_52 ?_
    refine lv_icmp_eq (tgt := 63) hx hb dX4_next_55 rfl (fun hc => ?_) (fun hc => ?_)
    · have hF := (if_pos hc).symm.trans hF
      refine lv_aload_n hx hb dX4_next_63 rfl (lv_at hl 2 rfl) ?_
      refine gf3_0N Z hP h2 nf_42 dX4_next_64 ?_
      refine lv_iload_n hx hb dX4_next_67 rfl (lv_at hl 3 rfl) ?_
      obtain ⟨hi8, hF⟩ := ck_ok hF
      refine ra_ld Z hP (ia_3_0 h2) hi8 dX4_next_68 ?_
      refine lv_aload_n hx hb dX4_next_69 rfl (lv_at hl 0 rfl) ?_
      refine gf4_5 Z hP h0 wd_21_2 dX4_next_70 ?_
      refine lv_ishr hx hb dX4_next_73 ?_
      refine lv_iconst (v := (1 : Int32)) hx hb dX4_next_74 ic_1 ?_
      refine lv_iand hx hb dX4_next_75 ?_
      refine lv_iconst (v := (1 : Int32)) hx hb dX4_next_76 ic_1 ?_
      refine lv_icmp_ne (tgt := 87) hx hb dX4_next_77 rfl (fun hc => ?_) (fun hc => ?_)
      · have hF := (if_neg hc).symm.trans hF
        refine lv_aload_n hx hb dX4_next_87 rfl (lv_at hl 1 rfl) ?_
        refine gf8_2N Z hP h1 nf_44 dX4_next_88 ?_
        exact hb91 _ _ hF (ia_8_2 h1) _ _ _ (lv_sub hl [0, 4] rfl) hP hS
      · have hF := (if_pos hc).symm.trans hF
        refine lv_aload_n hx hb dX4_next_80 rfl (lv_at hl 1 rfl) ?_
        refine gf8_3N Z hP h1 nf_43 dX4_next_81 ?_
        refine lv_goto (tgt := 91) hx hb dX4_next_84 rfl ?_
        exact hb91 _ _ hF (ia_8_3 h1) _ _ _ (lv_sub hl [0, 4] rfl) hP hS
    · have hF := (if_neg hc).symm.trans hF
      refine lv_aload_n hx hb dX4_next_58 rfl (lv_at hl 0 rfl) ?_
      refine gf4_5 Z hP h0 wd_21_2 dX4_next_59 ?_
      exact ret_I Z hr hlk hP hS hF dX4_next_62
  refine lv_aload_n hx hb dX4_next_0 rfl (lv_at hl 2 rfl) ?_
  refine gf3_1N Z hP h2 nf_37 dX4_next_1 ?_
  refine lv_iload_n hx hb dX4_next_4 rfl (lv_at hl 3 rfl) ?_
  obtain ⟨hi9, hF⟩ := ck_ok hF
  refine ra_ld Z hP (ia_3_1 h2) hi9 dX4_next_5 ?_
  refine lv_istore (lv' := [(4, .int (mc (v2 + 2) v3.toNatClampNeg)), (0, .ref (g.1 v0)), (1, .ref (g.1 v1)), (2, .ref (g.1 v2)), (3, .int v3)]) hx hb dX4_next_6 hl (Nat.le_of_ble_eq_true rfl) rfl (fun ls hl => ?_)
  refine lv_aload_n hx hb dX4_next_8 rfl (lv_at hl 3 rfl) ?_
  refine gf3_2N Z hP h2 nf_40 dX4_next_9 ?_
  refine lv_iload_n hx hb dX4_next_12 rfl (lv_at hl 4 rfl) ?_
  obtain ⟨hi10, hF⟩ := ck_ok hF
  refine rz_ld Z hP (ia_3_2 h2) hi10 dX4_next_13 ?_
  refine lv_if_eq (tgt := 50) hx hb dX4_next_14 rfl (fun hc => ?_) (fun hc => ?_)
  · have hF := (if_pos hc).symm.trans hF
    exact hb50 _ hF _ _ _ (lv_sub hl [1, 2, 3, 4, 0] rfl) hP hS
  · have hF := (if_neg hc).symm.trans hF
    refine lv_aload_n hx hb dX4_next_17 rfl (lv_at hl 1 rfl) ?_
    refine gf4_5 Z hP h0 wd_21_2 dX4_next_18 ?_
    refine lv_aload_n hx hb dX4_next_21 rfl (lv_at hl 2 rfl) ?_
    refine gf8_5N Z hP h1 nf_41 dX4_next_22 ?_
    refine lv_icmp_eq (tgt := 50) hx hb dX4_next_25 rfl (fun hc => ?_) (fun hc => ?_)
    · have hF := (if_pos hc).symm.trans hF
      exact hb50 _ hF _ _ _ (lv_sub hl [1, 2, 3, 4, 0] rfl) hP hS
    · have hF := (if_neg hc).symm.trans hF
      refine lv_iload hx hb dX4_next_28 (lv_at hl 0 rfl) ?_
      refine lv_aload_n hx hb dX4_next_30 rfl (lv_at hl 2 rfl) ?_
      refine gf8_5N Z hP h1 nf_41 dX4_next_31 ?_
      refine lv_ishr hx hb dX4_next_34 ?_
      refine lv_iconst (v := (1 : Int32)) hx hb dX4_next_35 ic_1 ?_
      refine lv_iand hx hb dX4_next_36 ?_
      refine lv_iconst (v := (1 : Int32)) hx hb dX4_next_37 ic_1 ?_
      refine lv_icmp_ne (tgt := 45) hx hb dX4_next_38 rfl (fun hc => ?_) (fun hc => ?_)
      · have hF := (if_neg hc).symm.trans hF
        refine lv_aload_n hx hb dX4_next_45 rfl (lv_at hl 2 rfl) ?_
        refine gf8_5N Z hP h1 nf_41 dX4_next_46 ?_
        exact ret_I Z hr hlk hP hS hF dX4_next_49
      · have hF := (if_pos hc).symm.trans hF
        refine lv_iconst (v := (-1 : Int32)) hx hb dX4_next_41 ic_m1 ?_
        refine lv_goto (tgt := 49) hx hb dX4_next_42 rfl ?_
        exact ret_I Z hr hlk hP hS hF dX4_next_49
theorem xX4_next {p : Program} {l : Launch} {e : Env} {R : Room} {s : State} {m : MethodId} {args : Array Value} {below : List Frame} {meth : Method} {c : Code} {H : Heap} {locs : List Loc} {Q : State → Prop} {cc : ByteArray} {nL : Nat} {own : String} {g : GG} {pc index : Nat} {ls : Array Slot} {rest : List Value} {mc mm : Mem} (Z : ZZ p s m args c cc nL own g) (hP : va_P g.2.2.1 vwCl (wL g mc mm) H) (hS : va_S (AA g s.heap.size) s.heap H locs) {v0 : Nat} {v1 : Nat} {v2 : Nat} {v3 : Int32} (h0 : isO 4 v0) (h1 : isO 8 v1) (h2 : isO 3 v2) {q : Int32} (hq : F4_next v0 v1 v2 v3 mc = some q) (hlk : Cond.methodLink own index yX4_next ∈ wsL_law) (hsz : ls.size = nL) (hro : (rest.map fun v => v.category).sum ≤ 8) (hR : 0 + 1 ≤ R.frames ∧ 8 + (8 + 11) + 0 ≤ R.locals) (hdg : decode cc pc = .ok (.invokevirtual index, 3)) (kk : ∀ (H : Heap) (locs : List Loc), va_P g.2.2.1 vwCl (wL g mc mm) H → va_S (AA g s.heap.size) s.heap H locs → W p l e R s m args below meth c H locs 0 0 Q (F0 m (pc + 3) ls (.int q :: rest))) : W p l e R s m args below meth c H locs 0 0 Q (F0 m pc ls (.int v3 :: .ref (g.1 v2) :: .ref (g.1 v1) :: .ref (g.1 v0) :: rest)) :=
  x_VI Z hP hS (kX4_next l g v0 v1 v2 v3 h0 h1 h2 mc mm q hq) (isO_w h0) (ci := 4) (by decide) rfl rfl mf_X4_next mv_X4_next hlk rfl rfl hsz hro hR hdg kk
theorem dX4_come_0 : decode cX4_come 0 = .ok (.aload_n 0, 1) := by decide +kernel
theorem dX4_come_1 : decode cX4_come 1 = .ok (.iload_n 1, 1) := by decide +kernel
theorem dX4_come_2 : decode cX4_come 2 = .ok (.putfield 24, 3) := by decide +kernel
theorem dX4_come_5 : decode cX4_come 5 = .ok (.iload_n 1, 1) := by decide +kernel
theorem dX4_come_6 : decode cX4_come 6 = .ok (.iconst (-1), 1) := by decide +kernel
theorem dX4_come_7 : decode cX4_come 7 = .ok (.if_icmp .ne 9, 3) := by decide +kernel
theorem dX4_come_10 : decode cX4_come 10 = .ok (.aload_n 0, 1) := by decide +kernel
theorem dX4_come_11 : decode cX4_come 11 = .ok (.iconst 0, 1) := by decide +kernel
theorem dX4_come_12 : decode cX4_come 12 = .ok (.putfield 39, 3) := by decide +kernel
theorem dX4_come_15 : decode cX4_come 15 = .ok (.return_, 1) := by decide +kernel
theorem dX4_come_16 : decode cX4_come 16 = .ok (.aload_n 0, 1) := by decide +kernel
theorem dX4_come_17 : decode cX4_come 17 = .ok (.dup, 1) := by decide +kernel
theorem dX4_come_18 : decode cX4_come 18 = .ok (.getfield 28, 3) := by decide +kernel
theorem dX4_come_21 : decode cX4_come 21 = .ok (.iconst 1, 1) := by decide +kernel
theorem dX4_come_22 : decode cX4_come 22 = .ok (.iadd, 1) := by decide +kernel
theorem dX4_come_23 : decode cX4_come 23 = .ok (.putfield 28, 3) := by decide +kernel
theorem dX4_come_26 : decode cX4_come 26 = .ok (.iload_n 3, 1) := by decide +kernel
theorem dX4_come_27 : decode cX4_come 27 = .ok (.ifCond .eq 32, 3) := by decide +kernel
theorem dX4_come_30 : decode cX4_come 30 = .ok (.aload_n 0, 1) := by decide +kernel
theorem dX4_come_31 : decode cX4_come 31 = .ok (.getfield 28, 3) := by decide +kernel
theorem dX4_come_34 : decode cX4_come 34 = .ok (.iconst 2, 1) := by decide +kernel
theorem dX4_come_35 : decode cX4_come 35 = .ok (.irem, 1) := by decide +kernel
theorem dX4_come_36 : decode cX4_come 36 = .ok (.ifCond .ne 23, 3) := by decide +kernel
theorem dX4_come_39 : decode cX4_come 39 = .ok (.aload_n 0, 1) := by decide +kernel
theorem dX4_come_40 : decode cX4_come 40 = .ok (.dup, 1) := by decide +kernel
theorem dX4_come_41 : decode cX4_come 41 = .ok (.getfield 31, 3) := by decide +kernel
theorem dX4_come_44 : decode cX4_come 44 = .ok (.iconst 1, 1) := by decide +kernel
theorem dX4_come_45 : decode cX4_come 45 = .ok (.iadd, 1) := by decide +kernel
theorem dX4_come_46 : decode cX4_come 46 = .ok (.putfield 31, 3) := by decide +kernel
theorem dX4_come_49 : decode cX4_come 49 = .ok (.aload_n 0, 1) := by decide +kernel
theorem dX4_come_50 : decode cX4_come 50 = .ok (.dup, 1) := by decide +kernel
theorem dX4_come_51 : decode cX4_come 51 = .ok (.getfield 39, 3) := by decide +kernel
theorem dX4_come_54 : decode cX4_come 54 = .ok (.iconst 1, 1) := by decide +kernel
theorem dX4_come_55 : decode cX4_come 55 = .ok (.isub, 1) := by decide +kernel
theorem dX4_come_56 : decode cX4_come 56 = .ok (.putfield 39, 3) := by decide +kernel
theorem dX4_come_59 : decode cX4_come 59 = .ok (.iload_n 2, 1) := by decide +kernel
theorem dX4_come_60 : decode cX4_come 60 = .ok (.ifCond .eq 20, 3) := by decide +kernel
theorem dX4_come_63 : decode cX4_come 63 = .ok (.aload_n 0, 1) := by decide +kernel
theorem dX4_come_64 : decode cX4_come 64 = .ok (.getfield 39, 3) := by decide +kernel
theorem dX4_come_67 : decode cX4_come 67 = .ok (.ifCond .le 13, 3) := by decide +kernel
theorem dX4_come_70 : decode cX4_come 70 = .ok (.aload_n 0, 1) := by decide +kernel
theorem dX4_come_71 : decode cX4_come 71 = .ok (.dup, 1) := by decide +kernel
theorem dX4_come_72 : decode cX4_come 72 = .ok (.getfield 39, 3) := by decide +kernel
theorem dX4_come_75 : decode cX4_come 75 = .ok (.iconst 1, 1) := by decide +kernel
theorem dX4_come_76 : decode cX4_come 76 = .ok (.isub, 1) := by decide +kernel
theorem dX4_come_77 : decode cX4_come 77 = .ok (.putfield 39, 3) := by decide +kernel
theorem dX4_come_80 : decode cX4_come 80 = .ok (.aload_n 0, 1) := by decide +kernel
theorem dX4_come_81 : decode cX4_come 81 = .ok (.getfield 39, 3) := by decide +kernel
theorem dX4_come_84 : decode cX4_come 84 = .ok (.ifCond .ne 9, 3) := by decide +kernel
theorem dX4_come_87 : decode cX4_come 87 = .ok (.aload_n 0, 1) := by decide +kernel
theorem dX4_come_88 : decode cX4_come 88 = .ok (.iconst (-1), 1) := by decide +kernel
theorem dX4_come_89 : decode cX4_come 89 = .ok (.putfield 24, 3) := by decide +kernel
theorem dX4_come_92 : decode cX4_come 92 = .ok (.return_, 1) := by decide +kernel
theorem dX4_come_93 : decode cX4_come 93 = .ok (.aload_n 0, 1) := by decide +kernel
theorem dX4_come_94 : decode cX4_come 94 = .ok (.dup, 1) := by decide +kernel
theorem dX4_come_95 : decode cX4_come 95 = .ok (.getfield 42, 3) := by decide +kernel
theorem dX4_come_98 : decode cX4_come 98 = .ok (.iconst 1, 1) := by decide +kernel
theorem dX4_come_99 : decode cX4_come 99 = .ok (.iload_n 1, 1) := by decide +kernel
theorem dX4_come_100 : decode cX4_come 100 = .ok (.ishl, 1) := by decide +kernel
theorem dX4_come_101 : decode cX4_come 101 = .ok (.ior, 1) := by decide +kernel
theorem dX4_come_102 : decode cX4_come 102 = .ok (.putfield 42, 3) := by decide +kernel
theorem dX4_come_105 : decode cX4_come 105 = .ok (.return_, 1) := by decide +kernel
noncomputable def F4_come_b80 (v0 : Nat) (v1 : Int32) (v2 : Int32) (v3 : Int32) (M : Mem) : Option (Mem) :=
  (if (M v0 9) = (0 : Int32) then some (mset M v0 5 (-1 : Int32)) else some (mset M v0 4 ((M v0 4) ||| ((1 : Int32) <<< (v1 &&& (31 : Int32))))))
noncomputable def F4_come_b59 (v0 : Nat) (v1 : Int32) (v2 : Int32) (v3 : Int32) (M : Mem) : Option (Mem) :=
  (if v2 = (0 : Int32) then (F4_come_b80 v0 v1 v2 v3) M else (if (M v0 9) ≤ (0 : Int32) then (F4_come_b80 v0 v1 v2 v3) M else (F4_come_b80 v0 v1 v2 v3) (mset M v0 9 ((M v0 9) - (1 : Int32)))))
noncomputable def F4_come (v0 : Nat) (v1 : Int32) (v2 : Int32) (v3 : Int32) (mc : Mem) : Option (Mem) :=
  (if v1 = (-1 : Int32) then some (mset (mset mc v0 5 v1) v0 9 (0 : Int32)) else (lt (mset mc v0 5 v1) (fun M2 => (if v3 = (0 : Int32) then (F4_come_b59 v0 v1 v2 v3) (mset M2 v0 7 ((M2 v0 7) + (1 : Int32))) else (lt (mset M2 v0 7 ((M2 v0 7) + (1 : Int32))) (fun M3 => (if (jrem (M3 v0 7) (2 : Int32)) = (0 : Int32) then (lt (mset M3 v0 8 ((M3 v0 8) + (1 : Int32))) (fun M4 => ((F4_come_b59 v0 v1 v2 v3) (mset M4 v0 9 ((M4 v0 9) - (1 : Int32)))))) else (F4_come_b59 v0 v1 v2 v3) M3)))))))
set_option maxHeartbeats 4000000 in
set_option maxRecDepth 100000 in
theorem kX4_come (l : Launch) (g : GG) (v0 : Nat) (v1 : Int32) (v2 : Int32) (v3 : Int32) (h0 : isO 4 v0) (mc mm : Mem) (q : Mem) (hF : F4_come v0 v1 v2 v3 mc = some q) : KV l yX4_come cX4_come 4 0 0 g [.ref (g.1 v0), .int v1, .int v2, .int v3] mc mm (q, mm) := by
  intro sz
  refine x_start (Qc := fun z => QV g z (q, mm)) (by decide +kernel) (Nat.le_of_ble_eq_true rfl) ?_ sz
  intro p e s m args below meth c ls Z hr hlk hP hl
  have hx := Z.1.1
  have hb := Z.1.2.1
  have hown := Z.1.2.2.2.1
  have hts := Z.1.2.2.2.2
  have hS : va_S (AA g s.heap.size) s.heap s.heap [] := va_S.rf
  have hl : lv_has ls 4 [(0, .ref (g.1 v0)), (1, .int v1), (2, .int v2), (3, .int v3)] := hl
  unfold F4_come at hF
  have hb80 : ∀  (M : Mem), F4_come_b80 v0 v1 v2 v3 M = some q → ∀ (H : Heap) (locs : List Loc) (ls : Array Slot), lv_has ls 4 [(0, .ref (g.1 v0)), (1, .int v1)] → va_P g.2.2.1 vwCl (wL g M mm) H → va_S (AA g s.heap.size) s.heap H locs → W p l e { frames := 0, cells := 0, slots := 0, locals := 0 } s m args below meth c H locs 0 0 (MQ below (QV g s.heap.size (q, mm)) args s 0 0 (AA g s.heap.size)) (F0 m 80 ls []) := by
    intro M hF H locs ls hl hP hS
    unfold F4_come_b80 at hF
    refine lv_aload_n hx hb dX4_come_80 rfl (lv_at hl 0 rfl) ?_
    refine gf4_9 Z hP h0 wd_21_5 dX4_come_81 ?_
    refine lv_if_ne (tgt := 93) hx hb dX4_come_84 rfl (fun hc => ?_) (fun hc => ?_)
    · have hF := (if_neg hc).symm.trans hF
      refine lv_aload_n hx hb dX4_come_93 rfl (lv_at hl 0 rfl) ?_
      refine lv_dup hx hb dX4_come_94 rfl ?_
      refine gf4_4 Z hP h0 wd_21_6 dX4_come_95 ?_
      refine lv_iconst (v := (1 : Int32)) hx hb dX4_come_98 ic_1 ?_
      refine lv_iload_n hx hb dX4_come_99 rfl (lv_at hl 1 rfl) ?_
      refine lv_ishl hx hb dX4_come_100 ?_
      refine lv_ior hx hb dX4_come_101 ?_
      refine pf4_4 Z hP hS h0 wd_21_6 dX4_come_102 (fun H locs hP hS => ?_)
      exact ret_VWC Z hr hlk hP hS hF dX4_come_105
    · have hF := (if_pos hc).symm.trans hF
      refine lv_aload_n hx hb dX4_come_87 rfl (lv_at hl 0 rfl) ?_
      refine lv_iconst (v := (-1 : Int32)) hx hb dX4_come_88 ic_m1 ?_
      refine pf4_5 Z hP hS h0 wd_21_2 dX4_come_89 (fun H locs hP hS => ?_)
      exact ret_VWC Z hr hlk hP hS hF dX4_come_92
  have hb59 : ∀  (M : Mem), F4_come_b59 v0 v1 v2 v3 M = some q → ∀ (H : Heap) (locs : List Loc) (ls : Array Slot), lv_has ls 4 [(0, .ref (g.1 v0)), (1, .int v1), (2, .int v2)] → va_P g.2.2.1 vwCl (wL g M mm) H → va_S (AA g s.heap.size) s.heap H locs → W p l e { frames := 0, cells := 0, slots := 0, locals := 0 } s m args below meth c H locs 0 0 (MQ below (QV g s.heap.size (q, mm)) args s 0 0 (AA g s.heap.size)) (F0 m 59 ls []) := by
    intro M hF H locs ls hl hP hS
    unfold F4_come_b59 at hF
    refine lv_iload_n hx hb dX4_come_59 rfl (lv_at hl 2 rfl) ?_
    refine lv_if_eq (tgt := 80) hx hb dX4_come_60 rfl (fun hc => ?_) (fun hc => ?_)
    · have hF := (if_pos hc).symm.trans hF
      exact hb80 _ hF _ _ _ (lv_sub hl [0, 1] rfl) hP hS
    · have hF := (if_neg hc).symm.trans hF
      refine lv_aload_n hx hb dX4_come_63 rfl (lv_at hl 0 rfl) ?_
      refine gf4_9 Z hP h0 wd_21_5 dX4_come_64 ?_
      refine lv_if_le (tgt := 80) hx hb dX4_come_67 rfl (fun hc => ?_) (fun hc => ?_)
      · have hF := (if_pos hc).symm.trans hF
        exact hb80 _ hF _ _ _ (lv_sub hl [0, 1] rfl) hP hS
      · have hF := (if_neg hc).symm.trans hF
        refine lv_aload_n hx hb dX4_come_70 rfl (lv_at hl 0 rfl) ?_
        refine lv_dup hx hb dX4_come_71 rfl ?_
        refine gf4_9 Z hP h0 wd_21_5 dX4_come_72 ?_
        refine lv_iconst (v := (1 : Int32)) hx hb dX4_come_75 ic_1 ?_
        refine lv_isub hx hb dX4_come_76 ?_
        refine pf4_9 Z hP hS h0 wd_21_5 dX4_come_77 (fun H locs hP hS => ?_)
        exact hb80 _ hF _ _ _ (lv_sub hl [0, 1] rfl) hP hS
  refine lv_aload_n hx hb dX4_come_0 rfl (lv_at hl 0 rfl) ?_
  refine lv_iload_n hx hb dX4_come_1 rfl (lv_at hl 1 rfl) ?_
  refine pf4_5 Z hP hS h0 wd_21_2 dX4_come_2 (fun H locs hP hS => ?_)
  refine lv_iload_n hx hb dX4_come_5 rfl (lv_at hl 1 rfl) ?_
  refine lv_iconst (v := (-1 : Int32)) hx hb dX4_come_6 ic_m1 ?_
  refine lv_icmp_ne (tgt := 16) hx hb dX4_come_7 rfl (fun hc => ?_) (fun hc => ?_)
  · have hF := (if_neg hc).symm.trans hF
    refine lv_aload_n hx hb dX4_come_16 rfl (lv_at hl 0 rfl) ?_
    refine lv_dup hx hb dX4_come_17 rfl ?_
    obtain ⟨M2, eM2, hF⟩ := lt_ok hF
    have hP : va_P g.2.2.1 vwCl (wL g M2 mm) H := by rw [eM2]; exact hP
    refine gf4_7 Z hP h0 wd_21_3 dX4_come_18 ?_
    refine lv_iconst (v := (1 : Int32)) hx hb dX4_come_21 ic_1 ?_
    refine lv_iadd hx hb dX4_come_22 ?_
    refine pf4_7 Z hP hS h0 wd_21_3 dX4_come_23 (fun H locs hP hS => ?_)
    refine lv_iload_n hx hb dX4_come_26 rfl (lv_at hl 3 rfl) ?_
    refine lv_if_eq (tgt := 59) hx hb dX4_come_27 rfl (fun hc => ?_) (fun hc => ?_)
    · have hF := (if_pos hc).symm.trans hF
      exact hb59 _ hF _ _ _ (lv_sub hl [0, 1, 2] rfl) hP hS
    · have hF := (if_neg hc).symm.trans hF
      refine lv_aload_n hx hb dX4_come_30 rfl (lv_at hl 0 rfl) ?_
      obtain ⟨M3, eM3, hF⟩ := lt_ok hF
      have hP : va_P g.2.2.1 vwCl (wL g M3 mm) H := by rw [eM3]; exact hP
      refine gf4_7 Z hP h0 wd_21_3 dX4_come_31 ?_
      refine lv_iconst (v := (2 : Int32)) hx hb dX4_come_34 ic_2 ?_
      refine lv_irem hx hb dX4_come_35 (by decide) ?_
      refine lv_if_ne (tgt := 59) hx hb dX4_come_36 rfl (fun hc => ?_) (fun hc => ?_)
      · have hF := (if_neg hc).symm.trans hF
        exact hb59 _ hF _ _ _ (lv_sub hl [0, 1, 2] rfl) hP hS
      · have hF := (if_pos hc).symm.trans hF
        refine lv_aload_n hx hb dX4_come_39 rfl (lv_at hl 0 rfl) ?_
        refine lv_dup hx hb dX4_come_40 rfl ?_
        refine gf4_8 Z hP h0 wd_21_4 dX4_come_41 ?_
        refine lv_iconst (v := (1 : Int32)) hx hb dX4_come_44 ic_1 ?_
        refine lv_iadd hx hb dX4_come_45 ?_
        refine pf4_8 Z hP hS h0 wd_21_4 dX4_come_46 (fun H locs hP hS => ?_)
        refine lv_aload_n hx hb dX4_come_49 rfl (lv_at hl 0 rfl) ?_
        refine lv_dup hx hb dX4_come_50 rfl ?_
        obtain ⟨M4, eM4, hF⟩ := lt_ok hF
        have hP : va_P g.2.2.1 vwCl (wL g M4 mm) H := by rw [eM4]; exact hP
        refine gf4_9 Z hP h0 wd_21_5 dX4_come_51 ?_
        refine lv_iconst (v := (1 : Int32)) hx hb dX4_come_54 ic_1 ?_
        refine lv_isub hx hb dX4_come_55 ?_
        refine pf4_9 Z hP hS h0 wd_21_5 dX4_come_56 (fun H locs hP hS => ?_)
        exact hb59 _ hF _ _ _ (lv_sub hl [0, 1, 2] rfl) hP hS
  · have hF := (if_pos hc).symm.trans hF
    refine lv_aload_n hx hb dX4_come_10 rfl (lv_at hl 0 rfl) ?_
    refine lv_iconst (v := (0 : Int32)) hx hb dX4_come_11 ic_0 ?_
    refine pf4_9 Z hP hS h0 wd_21_5 dX4_come_12 (fun H locs hP hS => ?_)
    exact ret_VWC Z hr hlk hP hS hF dX4_come_15
theorem xX4_come {p : Program} {l : Launch} {e : Env} {R : Room} {s : State} {m : MethodId} {args : Array Value} {below : List Frame} {meth : Method} {c : Code} {H : Heap} {locs : List Loc} {Q : State → Prop} {cc : ByteArray} {nL : Nat} {own : String} {g : GG} {pc index : Nat} {ls : Array Slot} {rest : List Value} {mc mm : Mem} (Z : ZZ p s m args c cc nL own g) (hP : va_P g.2.2.1 vwCl (wL g mc mm) H) (hS : va_S (AA g s.heap.size) s.heap H locs) {v0 : Nat} {v1 : Int32} {v2 : Int32} {v3 : Int32} (h0 : isO 4 v0) {q : Mem} (hq : F4_come v0 v1 v2 v3 mc = some q) (hlk : Cond.methodLink own index yX4_come ∈ wsL_law) (hsz : ls.size = nL) (hro : (rest.map fun v => v.category).sum ≤ 8) (hR : 0 + 1 ≤ R.frames ∧ 8 + (4 + 11) + 0 ≤ R.locals) (hdg : decode cc pc = .ok (.invokevirtual index, 3)) (kk : ∀ (H : Heap) (locs : List Loc), va_P g.2.2.1 vwCl (wL g q mm) H → va_S (AA g s.heap.size) s.heap H locs → W p l e R s m args below meth c H locs 0 0 Q (F0 m (pc + 3) ls (rest))) : W p l e R s m args below meth c H locs 0 0 Q (F0 m pc ls (.int v3 :: .int v2 :: .int v1 :: .ref (g.1 v0) :: rest)) :=
  x_VV Z hP hS (kX4_come l g v0 v1 v2 v3 h0 mc mm q hq) (isO_w h0) (ci := 4) (by decide) rfl rfl mf_X4_come mv_X4_come hlk rfl rfl hsz hro hR hdg kk

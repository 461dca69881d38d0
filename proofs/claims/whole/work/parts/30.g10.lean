theorem dX10_get_0 : decode cX10_get 0 = .ok (.iload_n 1, 1) := by decide +kernel
theorem dX10_get_1 : decode cX10_get 1 = .ok (.invokestatic 92, 3) := by decide +kernel
theorem dX10_get_4 : decode cX10_get 4 = .ok (.ifCond .eq 25, 3) := by decide +kernel
theorem dX10_get_7 : decode cX10_get 7 = .ok (.iload_n 2, 1) := by decide +kernel
theorem dX10_get_8 : decode cX10_get 8 = .ok (.i2l, 1) := by decide +kernel
theorem dX10_get_9 : decode cX10_get 9 = .ok (.lconst 0, 1) := by decide +kernel
theorem dX10_get_10 : decode cX10_get 10 = .ok (.ldc2_w 96, 3) := by decide +kernel
theorem dX10_get_13 : decode cX10_get 13 = .ok (.invokestatic 83, 3) := by decide +kernel
theorem dX10_get_16 : decode cX10_get 16 = .ok (.ifCond .eq 13, 3) := by decide +kernel
theorem dX10_get_19 : decode cX10_get 19 = .ok (.aload_n 0, 1) := by decide +kernel
theorem dX10_get_20 : decode cX10_get 20 = .ok (.iload_n 1, 1) := by decide +kernel
theorem dX10_get_21 : decode cX10_get 21 = .ok (.iload_n 2, 1) := by decide +kernel
theorem dX10_get_22 : decode cX10_get 22 = .ok (.iload_n 3, 1) := by decide +kernel
theorem dX10_get_23 : decode cX10_get 23 = .ok (.invokevirtual 102, 3) := by decide +kernel
theorem dX10_get_26 : decode cX10_get 26 = .ok (.ifCond .eq 6, 3) := by decide +kernel
theorem dX10_get_29 : decode cX10_get 29 = .ok (.ldc 110, 2) := by decide +kernel
theorem dX10_get_31 : decode cX10_get 31 = .ok (.ireturn, 1) := by decide +kernel
theorem dX10_get_32 : decode cX10_get 32 = .ok (.aload_n 0, 1) := by decide +kernel
theorem dX10_get_33 : decode cX10_get 33 = .ok (.getfield 16, 3) := by decide +kernel
theorem dX10_get_36 : decode cX10_get 36 = .ok (.bipush 60, 2) := by decide +kernel
theorem dX10_get_38 : decode cX10_get 38 = .ok (.iload_n 1, 1) := by decide +kernel
theorem dX10_get_39 : decode cX10_get 39 = .ok (.imul, 1) := by decide +kernel
theorem dX10_get_40 : decode cX10_get 40 = .ok (.iload_n 3, 1) := by decide +kernel
theorem dX10_get_41 : decode cX10_get 41 = .ok (.iadd, 1) := by decide +kernel
theorem dX10_get_42 : decode cX10_get 42 = .ok (.iaload, 1) := by decide +kernel
theorem dX10_get_43 : decode cX10_get 43 = .ok (.ireturn, 1) := by decide +kernel
noncomputable def F10_get (v1 : Int32) (v2 : Int32) (v3 : Int32) (mm : Mem) : Option (Int32 × Mem) :=
  ((F10_isSheet v1).bind (fun q5 => (if q5 = (0 : Int32) then some ((-2147483648 : Int32), mm) else ((F10_in v2.toInt64 (0 : Int64) (2 : Int64)).bind (fun q6 => (if q6 = (0 : Int32) then some ((-2147483648 : Int32), mm) else ((F10_lacks v1 v2 v3 mm).bind (fun q7 => (if q7.1 = (0 : Int32) then (ck (((60 : Int32) * v1) + v3) 240 (some ((q7.2 3 (((60 : Int32) * v1) + v3).toNatClampNeg), q7.2))) else some ((-2147483648 : Int32), q7.2))))))))))
set_option maxHeartbeats 4000000 in
set_option maxRecDepth 100000 in
theorem kX10_get (l : Launch) (g : GG) (v1 : Int32) (v2 : Int32) (v3 : Int32) (mc mm : Mem) (q : Int32 × Mem) (hF : F10_get v1 v2 v3 mm = some q) : KI l yX10_get cX10_get 4 .int 2 48 g [.ref (g.1 108), .int v1, .int v2, .int v3] mc mm q.1 (mc, q.2) := by
  intro sz
  refine x_start (Qc := fun z => QI g z q.1 (mc, q.2)) (by decide +kernel) (Nat.le_of_ble_eq_true rfl) ?_ sz
  intro p e s m args below meth c ls Z hr hlk hP hl
  have hx := Z.1.1
  have hb := Z.1.2.1
  have hown := Z.1.2.2.2.1
  have hts := Z.1.2.2.2.2
  have hS : va_S (AA g s.heap.size) s.heap s.heap [] := va_S.rf
  have hl : lv_has ls 4 [(0, .ref (g.1 108)), (1, .int v1), (2, .int v2), (3, .int v3)] := hl
  unfold F10_get at hF
  refine lv_iload_n hx hb dX10_get_0 rfl (lv_at hl 1 rfl) ?_
  obtain ⟨q5, hq5, hF⟩ := bd_ok hF
  refine xX10_isSheet Z hP hS hq5 wd_19_21 hl.1 (Nat.le_of_ble_eq_true rfl) ⟨Nat.le_of_ble_eq_true rfl, Nat.le_of_ble_eq_true rfl⟩ dX10_get_1 (fun H locs hP hS => ?_)
  refine lv_if_eq (tgt := 29) hx hb dX10_get_4 rfl (fun hc => ?_) (fun hc => ?_)
  · have hF := (if_pos hc).symm.trans hF
    refine lv_ldc (v := (-2147483648 : Int32)) hx hb hown (hts _ wd_41_12) dX10_get_29 ?_
    exact ret_IWM Z hr hlk hP hS hF dX10_get_31
  · have hF := (if_neg hc).symm.trans hF
    refine lv_iload_n hx hb dX10_get_7 rfl (lv_at hl 2 rfl) ?_
    refine lv_i2l (v := v2.toInt64) hx hb dX10_get_8 rfl ?_
    refine lv_lconst (v := (0 : Int64)) hx hb dX10_get_9 lc_0 ?_
    refine lv_ldc2 (v := (2 : Int64)) hx hb hown (hts _ wd_18_3) dX10_get_10 ?_
    obtain ⟨q6, hq6, hF⟩ := bd_ok hF
    refine xX10_in Z hP hS hq6 wd_13_8 hl.1 (Nat.le_of_ble_eq_true rfl) ⟨Nat.le_of_ble_eq_true rfl, Nat.le_of_ble_eq_true rfl⟩ dX10_get_13 (fun H locs hP hS => ?_)
    refine lv_if_eq (tgt := 29) hx hb dX10_get_16 rfl (fun hc => ?_) (fun hc => ?_)
    · have hF := (if_pos hc).symm.trans hF
      refine lv_ldc (v := (-2147483648 : Int32)) hx hb hown (hts _ wd_41_12) dX10_get_29 ?_
      exact ret_IWM Z hr hlk hP hS hF dX10_get_31
    · have hF := (if_neg hc).symm.trans hF
      refine lv_aload_n hx hb dX10_get_19 rfl (lv_at hl 0 rfl) ?_
      refine lv_iload_n hx hb dX10_get_20 rfl (lv_at hl 1 rfl) ?_
      refine lv_iload_n hx hb dX10_get_21 rfl (lv_at hl 2 rfl) ?_
      refine lv_iload_n hx hb dX10_get_22 rfl (lv_at hl 3 rfl) ?_
      obtain ⟨q7, hq7, hF⟩ := bd_ok hF
      refine xX10_lacks Z hP hS hq7 wd_40_20 hl.1 (Nat.le_of_ble_eq_true rfl) ⟨Nat.le_of_ble_eq_true rfl, Nat.le_of_ble_eq_true rfl⟩ dX10_get_23 (fun H locs hP hS => ?_)
      refine lv_if_eq (tgt := 32) hx hb dX10_get_26 rfl (fun hc => ?_) (fun hc => ?_)
      · have hF := (if_pos hc).symm.trans hF
        refine lv_aload_n hx hb dX10_get_32 rfl (lv_at hl 0 rfl) ?_
        refine gf10_2 Z hP wd_6_6 dX10_get_33 ?_
        refine lv_bipush (v := (60 : Int32)) hx hb dX10_get_36 bp_60 ?_
        refine lv_iload_n hx hb dX10_get_38 rfl (lv_at hl 1 rfl) ?_
        refine lv_imul hx hb dX10_get_39 ?_
        refine lv_iload_n hx hb dX10_get_40 rfl (lv_at hl 3 rfl) ?_
        refine lv_iadd hx hb dX10_get_41 ?_
        obtain ⟨hi8, hF⟩ := ck_ok hF
        refine rM_ld Z hP 240 3 (by decide +kernel) hi8 dX10_get_42 ?_
        exact ret_IWM Z hr hlk hP hS hF dX10_get_43
      · have hF := (if_neg hc).symm.trans hF
        refine lv_ldc (v := (-2147483648 : Int32)) hx hb hown (hts _ wd_41_12) dX10_get_29 ?_
        exact ret_IWM Z hr hlk hP hS hF dX10_get_31
theorem xX10_get {p : Program} {l : Launch} {e : Env} {R : Room} {s : State} {m : MethodId} {args : Array Value} {below : List Frame} {meth : Method} {c : Code} {H : Heap} {locs : List Loc} {Q : State → Prop} {cc : ByteArray} {nL : Nat} {own : String} {g : GG} {pc index : Nat} {ls : Array Slot} {rest : List Value} {mc mm : Mem} (Z : ZZ p s m args c cc nL own g) (hP : va_P g.2.2.1 vwCl (wL g mc mm) H) (hS : va_S (AA g s.heap.size) s.heap H locs) {v1 : Int32} {v2 : Int32} {v3 : Int32} {q : Int32 × Mem} (hq : F10_get v1 v2 v3 mm = some q) (hlk : Cond.methodLink own index yX10_get ∈ wsL_law) (hsz : ls.size = nL) (hro : (rest.map fun v => v.category).sum ≤ 8) (hR : 2 + 1 ≤ R.frames ∧ 8 + (4 + 11) + 48 ≤ R.locals) (hdg : decode cc pc = .ok (.invokevirtual index, 3)) (kk : ∀ (H : Heap) (locs : List Loc), va_P g.2.2.1 vwCl (wL g mc q.2) H → va_S (AA g s.heap.size) s.heap H locs → W p l e R s m args below meth c H locs 0 0 Q (F0 m (pc + 3) ls (.int q.1 :: rest))) : W p l e R s m args below meth c H locs 0 0 Q (F0 m pc ls (.int v3 :: .int v2 :: .int v1 :: .ref (g.1 108) :: rest)) :=
  x_VI Z hP hS (kX10_get l g v1 v2 v3 mc mm q hq) (mO) (ci := 10) (by decide) rfl rfl mf_X10_get mv_X10_get hlk rfl rfl hsz hro hR hdg kk
theorem dX10_copy_0 : decode cX10_copy 0 = .ok (.iload_n 1, 1) := by decide +kernel
theorem dX10_copy_1 : decode cX10_copy 1 = .ok (.invokestatic 92, 3) := by decide +kernel
theorem dX10_copy_4 : decode cX10_copy 4 = .ok (.ifCond .eq 10, 3) := by decide +kernel
theorem dX10_copy_7 : decode cX10_copy 7 = .ok (.iload_n 3, 1) := by decide +kernel
theorem dX10_copy_8 : decode cX10_copy 8 = .ok (.invokestatic 92, 3) := by decide +kernel
theorem dX10_copy_11 : decode cX10_copy 11 = .ok (.ifCond .ne 6, 3) := by decide +kernel
theorem dX10_copy_14 : decode cX10_copy 14 = .ok (.bipush (-2), 2) := by decide +kernel
theorem dX10_copy_16 : decode cX10_copy 16 = .ok (.ireturn, 1) := by decide +kernel
theorem dX10_copy_17 : decode cX10_copy 17 = .ok (.aload_n 0, 1) := by decide +kernel
theorem dX10_copy_18 : decode cX10_copy 18 = .ok (.getfield 7, 3) := by decide +kernel
theorem dX10_copy_21 : decode cX10_copy 21 = .ok (.iload_n 1, 1) := by decide +kernel
theorem dX10_copy_22 : decode cX10_copy 22 = .ok (.iaload, 1) := by decide +kernel
theorem dX10_copy_23 : decode cX10_copy 23 = .ok (.ifCond .lt 12, 3) := by decide +kernel
theorem dX10_copy_26 : decode cX10_copy 26 = .ok (.aload_n 0, 1) := by decide +kernel
theorem dX10_copy_27 : decode cX10_copy 27 = .ok (.getfield 7, 3) := by decide +kernel
theorem dX10_copy_30 : decode cX10_copy 30 = .ok (.iload_n 3, 1) := by decide +kernel
theorem dX10_copy_31 : decode cX10_copy 31 = .ok (.iaload, 1) := by decide +kernel
theorem dX10_copy_32 : decode cX10_copy 32 = .ok (.ifCond .ge 9, 3) := by decide +kernel
theorem dX10_copy_35 : decode cX10_copy 35 = .ok (.aload_n 0, 1) := by decide +kernel
theorem dX10_copy_36 : decode cX10_copy 36 = .ok (.iconst 1, 1) := by decide +kernel
theorem dX10_copy_37 : decode cX10_copy 37 = .ok (.invokevirtual 98, 3) := by decide +kernel
theorem dX10_copy_40 : decode cX10_copy 40 = .ok (.ireturn, 1) := by decide +kernel
theorem dX10_copy_41 : decode cX10_copy 41 = .ok (.aload_n 0, 1) := by decide +kernel
theorem dX10_copy_42 : decode cX10_copy 42 = .ok (.getfield 7, 3) := by decide +kernel
theorem dX10_copy_45 : decode cX10_copy 45 = .ok (.iload_n 1, 1) := by decide +kernel
theorem dX10_copy_46 : decode cX10_copy 46 = .ok (.iaload, 1) := by decide +kernel
theorem dX10_copy_47 : decode cX10_copy 47 = .ok (.aload_n 0, 1) := by decide +kernel
theorem dX10_copy_48 : decode cX10_copy 48 = .ok (.getfield 7, 3) := by decide +kernel
theorem dX10_copy_51 : decode cX10_copy 51 = .ok (.iload_n 3, 1) := by decide +kernel
theorem dX10_copy_52 : decode cX10_copy 52 = .ok (.iaload, 1) := by decide +kernel
theorem dX10_copy_53 : decode cX10_copy 53 = .ok (.if_icmp .eq 9, 3) := by decide +kernel
theorem dX10_copy_56 : decode cX10_copy 56 = .ok (.aload_n 0, 1) := by decide +kernel
theorem dX10_copy_57 : decode cX10_copy 57 = .ok (.iconst 4, 1) := by decide +kernel
theorem dX10_copy_58 : decode cX10_copy 58 = .ok (.invokevirtual 98, 3) := by decide +kernel
theorem dX10_copy_61 : decode cX10_copy 61 = .ok (.ireturn, 1) := by decide +kernel
theorem dX10_copy_62 : decode cX10_copy 62 = .ok (.iload_n 2, 1) := by decide +kernel
theorem dX10_copy_63 : decode cX10_copy 63 = .ok (.ifCond .lt 48, 3) := by decide +kernel
theorem dX10_copy_66 : decode cX10_copy 66 = .ok (.iload 4, 2) := by decide +kernel
theorem dX10_copy_68 : decode cX10_copy 68 = .ok (.ifCond .lt 43, 3) := by decide +kernel
theorem dX10_copy_71 : decode cX10_copy 71 = .ok (.iload 5, 2) := by decide +kernel
theorem dX10_copy_73 : decode cX10_copy 73 = .ok (.ifCond .lt 38, 3) := by decide +kernel
theorem dX10_copy_76 : decode cX10_copy 76 = .ok (.iload_n 2, 1) := by decide +kernel
theorem dX10_copy_77 : decode cX10_copy 77 = .ok (.i2l, 1) := by decide +kernel
theorem dX10_copy_78 : decode cX10_copy 78 = .ok (.iload 5, 2) := by decide +kernel
theorem dX10_copy_80 : decode cX10_copy 80 = .ok (.i2l, 1) := by decide +kernel
theorem dX10_copy_81 : decode cX10_copy 81 = .ok (.ladd, 1) := by decide +kernel
theorem dX10_copy_82 : decode cX10_copy 82 = .ok (.aload_n 0, 1) := by decide +kernel
theorem dX10_copy_83 : decode cX10_copy 83 = .ok (.getfield 13, 3) := by decide +kernel
theorem dX10_copy_86 : decode cX10_copy 86 = .ok (.iload_n 1, 1) := by decide +kernel
theorem dX10_copy_87 : decode cX10_copy 87 = .ok (.iaload, 1) := by decide +kernel
theorem dX10_copy_88 : decode cX10_copy 88 = .ok (.i2l, 1) := by decide +kernel
theorem dX10_copy_89 : decode cX10_copy 89 = .ok (.lcmp, 1) := by decide +kernel
theorem dX10_copy_90 : decode cX10_copy 90 = .ok (.ifCond .gt 21, 3) := by decide +kernel
theorem dX10_copy_93 : decode cX10_copy 93 = .ok (.iload 4, 2) := by decide +kernel
theorem dX10_copy_95 : decode cX10_copy 95 = .ok (.i2l, 1) := by decide +kernel
theorem dX10_copy_96 : decode cX10_copy 96 = .ok (.iload 5, 2) := by decide +kernel
theorem dX10_copy_98 : decode cX10_copy 98 = .ok (.i2l, 1) := by decide +kernel
theorem dX10_copy_99 : decode cX10_copy 99 = .ok (.ladd, 1) := by decide +kernel
theorem dX10_copy_100 : decode cX10_copy 100 = .ok (.aload_n 0, 1) := by decide +kernel
theorem dX10_copy_101 : decode cX10_copy 101 = .ok (.getfield 13, 3) := by decide +kernel
theorem dX10_copy_104 : decode cX10_copy 104 = .ok (.iload_n 3, 1) := by decide +kernel
theorem dX10_copy_105 : decode cX10_copy 105 = .ok (.iaload, 1) := by decide +kernel
theorem dX10_copy_106 : decode cX10_copy 106 = .ok (.i2l, 1) := by decide +kernel
theorem dX10_copy_107 : decode cX10_copy 107 = .ok (.lcmp, 1) := by decide +kernel
theorem dX10_copy_108 : decode cX10_copy 108 = .ok (.ifCond .le 9, 3) := by decide +kernel
theorem dX10_copy_111 : decode cX10_copy 111 = .ok (.aload_n 0, 1) := by decide +kernel
theorem dX10_copy_112 : decode cX10_copy 112 = .ok (.iconst 2, 1) := by decide +kernel
theorem dX10_copy_113 : decode cX10_copy 113 = .ok (.invokevirtual 98, 3) := by decide +kernel
theorem dX10_copy_116 : decode cX10_copy 116 = .ok (.ireturn, 1) := by decide +kernel
theorem dX10_copy_117 : decode cX10_copy 117 = .ok (.iconst 0, 1) := by decide +kernel
theorem dX10_copy_118 : decode cX10_copy 118 = .ok (.istore 6, 2) := by decide +kernel
theorem dX10_copy_120 : decode cX10_copy 120 = .ok (.iload 6, 2) := by decide +kernel
theorem dX10_copy_122 : decode cX10_copy 122 = .ok (.iload 5, 2) := by decide +kernel
theorem dX10_copy_124 : decode cX10_copy 124 = .ok (.if_icmp .ge 30, 3) := by decide +kernel
theorem dX10_copy_127 : decode cX10_copy 127 = .ok (.aload_n 0, 1) := by decide +kernel
theorem dX10_copy_128 : decode cX10_copy 128 = .ok (.getfield 19, 3) := by decide +kernel
theorem dX10_copy_131 : decode cX10_copy 131 = .ok (.iload 6, 2) := by decide +kernel
theorem dX10_copy_133 : decode cX10_copy 133 = .ok (.aload_n 0, 1) := by decide +kernel
theorem dX10_copy_134 : decode cX10_copy 134 = .ok (.getfield 16, 3) := by decide +kernel
theorem dX10_copy_137 : decode cX10_copy 137 = .ok (.bipush 60, 2) := by decide +kernel
theorem dX10_copy_139 : decode cX10_copy 139 = .ok (.iload_n 1, 1) := by decide +kernel
theorem dX10_copy_140 : decode cX10_copy 140 = .ok (.imul, 1) := by decide +kernel
theorem dX10_copy_141 : decode cX10_copy 141 = .ok (.iload_n 2, 1) := by decide +kernel
theorem dX10_copy_142 : decode cX10_copy 142 = .ok (.iadd, 1) := by decide +kernel
theorem dX10_copy_143 : decode cX10_copy 143 = .ok (.iload 6, 2) := by decide +kernel
theorem dX10_copy_145 : decode cX10_copy 145 = .ok (.iadd, 1) := by decide +kernel
theorem dX10_copy_146 : decode cX10_copy 146 = .ok (.iaload, 1) := by decide +kernel
theorem dX10_copy_147 : decode cX10_copy 147 = .ok (.iastore, 1) := by decide +kernel
theorem dX10_copy_148 : decode cX10_copy 148 = .ok (.iinc 6 1, 3) := by decide +kernel
theorem dX10_copy_151 : decode cX10_copy 151 = .ok (.goto (-31), 3) := by decide +kernel
theorem dX10_copy_154 : decode cX10_copy 154 = .ok (.iconst 0, 1) := by decide +kernel
theorem dX10_copy_155 : decode cX10_copy 155 = .ok (.istore 6, 2) := by decide +kernel
theorem dX10_copy_157 : decode cX10_copy 157 = .ok (.iload 6, 2) := by decide +kernel
theorem dX10_copy_159 : decode cX10_copy 159 = .ok (.iload 5, 2) := by decide +kernel
theorem dX10_copy_161 : decode cX10_copy 161 = .ok (.if_icmp .ge 31, 3) := by decide +kernel
theorem dX10_copy_164 : decode cX10_copy 164 = .ok (.aload_n 0, 1) := by decide +kernel
theorem dX10_copy_165 : decode cX10_copy 165 = .ok (.getfield 16, 3) := by decide +kernel
theorem dX10_copy_168 : decode cX10_copy 168 = .ok (.bipush 60, 2) := by decide +kernel
theorem dX10_copy_170 : decode cX10_copy 170 = .ok (.iload_n 3, 1) := by decide +kernel
theorem dX10_copy_171 : decode cX10_copy 171 = .ok (.imul, 1) := by decide +kernel
theorem dX10_copy_172 : decode cX10_copy 172 = .ok (.iload 4, 2) := by decide +kernel
theorem dX10_copy_174 : decode cX10_copy 174 = .ok (.iadd, 1) := by decide +kernel
theorem dX10_copy_175 : decode cX10_copy 175 = .ok (.iload 6, 2) := by decide +kernel
theorem dX10_copy_177 : decode cX10_copy 177 = .ok (.iadd, 1) := by decide +kernel
theorem dX10_copy_178 : decode cX10_copy 178 = .ok (.aload_n 0, 1) := by decide +kernel
theorem dX10_copy_179 : decode cX10_copy 179 = .ok (.getfield 19, 3) := by decide +kernel
theorem dX10_copy_182 : decode cX10_copy 182 = .ok (.iload 6, 2) := by decide +kernel
theorem dX10_copy_184 : decode cX10_copy 184 = .ok (.iaload, 1) := by decide +kernel
theorem dX10_copy_185 : decode cX10_copy 185 = .ok (.iastore, 1) := by decide +kernel
theorem dX10_copy_186 : decode cX10_copy 186 = .ok (.iinc 6 1, 3) := by decide +kernel
theorem dX10_copy_189 : decode cX10_copy 189 = .ok (.goto (-32), 3) := by decide +kernel
theorem dX10_copy_192 : decode cX10_copy 192 = .ok (.iconst 1, 1) := by decide +kernel
theorem dX10_copy_193 : decode cX10_copy 193 = .ok (.ireturn, 1) := by decide +kernel
noncomputable def F10_copy_b35 (v1 : Int32) (v2 : Int32) (v3 : Int32) (v4 : Int32) (v5 : Int32) (M : Mem) : Option (Int32 × Mem) :=
  ((F10_finds (1 : Int32) M).bind (fun q16 => (some (q16.1, q16.2))))
noncomputable def F10_copy_b111 (v1 : Int32) (v2 : Int32) (v3 : Int32) (v4 : Int32) (v5 : Int32) (M : Mem) : Option (Int32 × Mem) :=
  ((F10_finds (2 : Int32) M).bind (fun q17 => (some (q17.1, q17.2))))
noncomputable def F10_copy_p157 (kh : Int32 → Mem → Option (Int32 × Mem)) (v1 : Int32) (v2 : Int32) (v3 : Int32) (v4 : Int32) (v5 : Int32) (a6 : Int32) (M : Mem) : Option (Int32 × Mem) :=
  (if v5 ≤ a6 then some ((1 : Int32), M) else (ck a6 60 (ck ((((60 : Int32) * v3) + v4) + a6) 240 (kh (a6 + (1 : Int32)) (mset M 3 ((((60 : Int32) * v3) + v4) + a6).toNatClampNeg (M 4 a6.toNatClampNeg))))))
noncomputable def F10_copy_h157 (v1 : Int32) (v2 : Int32) (v3 : Int32) (v4 : Int32) (v5 : Int32) : Nat → Int32 → Mem → Option (Int32 × Mem)
  | 0, _, _ => none
  | n + 1, a6, M => F10_copy_p157 (F10_copy_h157 v1 v2 v3 v4 v5 n) v1 v2 v3 v4 v5 a6 M
noncomputable def F10_copy_b154 (v1 : Int32) (v2 : Int32) (v3 : Int32) (v4 : Int32) (v5 : Int32) (M : Mem) : Option (Int32 × Mem) :=
  (F10_copy_h157 v1 v2 v3 v4 v5 FU) (0 : Int32) M
noncomputable def F10_copy_p120 (kh : Int32 → Mem → Option (Int32 × Mem)) (kx154 : Mem → Option (Int32 × Mem)) (v1 : Int32) (v2 : Int32) (v3 : Int32) (v4 : Int32) (v5 : Int32) (a6 : Int32) (M : Mem) : Option (Int32 × Mem) :=
  (if v5 ≤ a6 then kx154 M else (ck ((((60 : Int32) * v1) + v2) + a6) 240 (ck a6 60 (kh (a6 + (1 : Int32)) (mset M 4 a6.toNatClampNeg (M 3 ((((60 : Int32) * v1) + v2) + a6).toNatClampNeg))))))
noncomputable def F10_copy_h120 (kx154 : Mem → Option (Int32 × Mem)) (v1 : Int32) (v2 : Int32) (v3 : Int32) (v4 : Int32) (v5 : Int32) : Nat → Int32 → Mem → Option (Int32 × Mem)
  | 0, _, _ => none
  | n + 1, a6, M => F10_copy_p120 (F10_copy_h120 kx154 v1 v2 v3 v4 v5 n) kx154 v1 v2 v3 v4 v5 a6 M
noncomputable def F10_copy (v1 : Int32) (v2 : Int32) (v3 : Int32) (v4 : Int32) (v5 : Int32) (mm : Mem) : Option (Int32 × Mem) :=
  ((F10_isSheet v1).bind (fun q22 => (if q22 = (0 : Int32) then some ((-2 : Int32), mm) else ((F10_isSheet v3).bind (fun q23 => (if q23 = (0 : Int32) then some ((-2 : Int32), mm) else (ck v1 4 (if (mm 1 v1.toNatClampNeg) < (0 : Int32) then (F10_copy_b35 v1 v2 v3 v4 v5) mm else (ck v3 4 (if (0 : Int32) ≤ (mm 1 v3.toNatClampNeg) then (ck v1 4 (ck v3 4 (if (mm 1 v1.toNatClampNeg) = (mm 1 v3.toNatClampNeg) then (if v2 < (0 : Int32) then (F10_copy_b111 v1 v2 v3 v4 v5) mm else (if v4 < (0 : Int32) then (F10_copy_b111 v1 v2 v3 v4 v5) mm else (if v5 < (0 : Int32) then (F10_copy_b111 v1 v2 v3 v4 v5) mm else (ck v1 4 (if (0 : Int32) < (lg_cmp (v2.toInt64 + v5.toInt64) ((mm 2 v1.toNatClampNeg).toInt64)) then (F10_copy_b111 v1 v2 v3 v4 v5) mm else (ck v3 4 (if (lg_cmp (v4.toInt64 + v5.toInt64) ((mm 2 v3.toNatClampNeg).toInt64)) ≤ (0 : Int32) then (F10_copy_h120 (F10_copy_b154 v1 v2 v3 v4 v5) v1 v2 v3 v4 v5 FU) (0 : Int32) mm else (F10_copy_b111 v1 v2 v3 v4 v5) mm))))))) else ((F10_finds (4 : Int32) mm).bind (fun q30 => (some (q30.1, q30.2))))))) else (F10_copy_b35 v1 v2 v3 v4 v5) mm))))))))))
set_option maxHeartbeats 4000000 in
set_option maxRecDepth 100000 in
theorem kX10_copy (l : Launch) (g : GG) (v1 : Int32) (v2 : Int32) (v3 : Int32) (v4 : Int32) (v5 : Int32) (mc mm : Mem) (q : Int32 × Mem) (hF : F10_copy v1 v2 v3 v4 v5 mm = some q) : KI l yX10_copy cX10_copy 7 .int 2 45 g [.ref (g.1 108), .int v1, .int v2, .int v3, .int v4, .int v5] mc mm q.1 (mc, q.2) := by
  intro sz
  refine x_start (Qc := fun z => QI g z q.1 (mc, q.2)) (by decide +kernel) (Nat.le_of_ble_eq_true rfl) ?_ sz
  intro p e s m args below meth c ls Z hr hlk hP hl
  have hx := Z.1.1
  have hb := Z.1.2.1
  have hown := Z.1.2.2.2.1
  have hts := Z.1.2.2.2.2
  have hS : va_S (AA g s.heap.size) s.heap s.heap [] := va_S.rf
  have hl : lv_has ls 7 [(0, .ref (g.1 108)), (1, .int v1), (2, .int v2), (3, .int v3), (4, .int v4), (5, .int v5)] := hl
  unfold F10_copy at hF
  have hb35 : ∀  (M : Mem), F10_copy_b35 v1 v2 v3 v4 v5 M = some q → ∀ (H : Heap) (locs : List Loc) (ls : Array Slot), lv_has ls 7 [(0, .ref (g.1 108))] → va_P g.2.2.1 vwCl (wL g mc M) H → va_S (AA g s.heap.size) s.heap H locs → W p l e { frames := 2, cells := 0, slots := 0, locals := 45 } s m args below meth c H locs 0 0 (MQ below (QI g s.heap.size q.1 (mc, q.2)) args s 0 0 (AA g s.heap.size)) (F0 m 35 ls []) := by
    intro M hF H locs ls hl hP hS
    unfold F10_copy_b35 at hF
    refine lv_aload_n hx hb dX10_copy_35 rfl (lv_at hl 0 rfl) ?_
    refine lv_iconst (v := (1 : Int32)) hx hb dX10_copy_36 ic_1 ?_
    obtain ⟨q16, hq16, hF⟩ := bd_ok hF
    refine xX10_finds Z hP hS hq16 wd_20_0 hl.1 (Nat.le_of_ble_eq_true rfl) ⟨Nat.le_of_ble_eq_true rfl, Nat.le_of_ble_eq_true rfl⟩ dX10_copy_37 (fun H locs hP hS => ?_)
    exact ret_IWM Z hr hlk hP hS hF dX10_copy_40
  have hb111 : ∀  (M : Mem), F10_copy_b111 v1 v2 v3 v4 v5 M = some q → ∀ (H : Heap) (locs : List Loc) (ls : Array Slot), lv_has ls 7 [(0, .ref (g.1 108))] → va_P g.2.2.1 vwCl (wL g mc M) H → va_S (AA g s.heap.size) s.heap H locs → W p l e { frames := 2, cells := 0, slots := 0, locals := 45 } s m args below meth c H locs 0 0 (MQ below (QI g s.heap.size q.1 (mc, q.2)) args s 0 0 (AA g s.heap.size)) (F0 m 111 ls []) := by
    intro M hF H locs ls hl hP hS
    unfold F10_copy_b111 at hF
    refine lv_aload_n hx hb dX10_copy_111 rfl (lv_at hl 0 rfl) ?_
    refine lv_iconst (v := (2 : Int32)) hx hb dX10_copy_112 ic_2 ?_
    obtain ⟨q17, hq17, hF⟩ := bd_ok hF
    refine xX10_finds Z hP hS hq17 wd_20_0 hl.1 (Nat.le_of_ble_eq_true rfl) ⟨Nat.le_of_ble_eq_true rfl, Nat.le_of_ble_eq_true rfl⟩ dX10_copy_113 (fun H locs hP hS => ?_)
    exact ret_IWM Z hr hlk hP hS hF dX10_copy_116
  have hL157 : ∀ n : Nat, ∀ (a6 : Int32) (M : Mem), F10_copy_h157 v1 v2 v3 v4 v5 n a6 M = some q → ∀ (H : Heap) (locs : List Loc) (ls : Array Slot), lv_has ls 7 [(0, .ref (g.1 108)), (3, .int v3), (4, .int v4), (5, .int v5), (6, .int a6)] → va_P g.2.2.1 vwCl (wL g mc M) H → va_S (AA g s.heap.size) s.heap H locs → W p l e { frames := 2, cells := 0, slots := 0, locals := 45 } s m args below meth c H locs 0 0 (MQ below (QI g s.heap.size q.1 (mc, q.2)) args s 0 0 (AA g s.heap.size)) (F0 m 157 ls []) := by
    intro n
    induction n with
    | zero => intro a6 M hF H locs ls hl hP hS; exact absurd hF (fun z => nomatch (show (none : Option _) = some q from z))
    | succ n ih =>
      generalize hkh : F10_copy_h157 v1 v2 v3 v4 v5 n = kh at ih
      intro a6 M hF H locs ls hl hP hS
      have hF : F10_copy_p157 (F10_copy_h157 v1 v2 v3 v4 v5 n) v1 v2 v3 v4 v5 a6 M = some q := hF
      rw [hkh] at hF
      unfold F10_copy_p157 at hF
      refine lv_iload hx hb dX10_copy_157 (lv_at hl 4 rfl) ?_
      refine lv_iload hx hb dX10_copy_159 (lv_at hl 3 rfl) ?_
      refine lv_icmp_ge (tgt := 192) hx hb dX10_copy_161 rfl (fun hc => ?_) (fun hc => ?_)
      · have hF := (if_pos hc).symm.trans hF
        refine lv_iconst (v := (1 : Int32)) hx hb dX10_copy_192 ic_1 ?_
        exact ret_IWM Z hr hlk hP hS hF dX10_copy_193
      · have hF := (if_neg hc).symm.trans hF
        refine lv_aload_n hx hb dX10_copy_164 rfl (lv_at hl 0 rfl) ?_
        refine gf10_2 Z hP wd_6_6 dX10_copy_165 ?_
        refine lv_bipush (v := (60 : Int32)) hx hb dX10_copy_168 bp_60 ?_
        refine lv_iload_n hx hb dX10_copy_170 rfl (lv_at hl 1 rfl) ?_
        refine lv_imul hx hb dX10_copy_171 ?_
        refine lv_iload hx hb dX10_copy_172 (lv_at hl 2 rfl) ?_
        refine lv_iadd hx hb dX10_copy_174 ?_
        refine lv_iload hx hb dX10_copy_175 (lv_at hl 4 rfl) ?_
        refine lv_iadd hx hb dX10_copy_177 ?_
        refine lv_aload_n hx hb dX10_copy_178 rfl (lv_at hl 0 rfl) ?_
        refine gf10_3 Z hP wd_6_7 dX10_copy_179 ?_
        refine lv_iload hx hb dX10_copy_182 (lv_at hl 4 rfl) ?_
        obtain ⟨hi18, hF⟩ := ck_ok hF
        refine rM_ld Z hP 60 4 (by decide +kernel) hi18 dX10_copy_184 ?_
        obtain ⟨hi19, hF⟩ := ck_ok hF
        refine rM_st Z hP hS 240 3 (by decide +kernel) hi19 dX10_copy_185 (fun H locs hP hS => ?_)
        refine lv_iinc (lv' := [(6, .int (a6 + (1 : Int32))), (0, .ref (g.1 108)), (3, .int v3), (4, .int v4), (5, .int v5)]) (v := (a6 + (1 : Int32))) hx hb dX10_copy_186 hl (k := 4) rfl (io_1 _) (Nat.le_of_ble_eq_true rfl) rfl (fun ls hl => ?_)
        refine lv_goto (tgt := 157) hx hb dX10_copy_189 rfl ?_
        exact ih _ _ hF _ _ _ (lv_sub hl [1, 2, 3, 4, 0] rfl) hP hS
  have hb154 : ∀  (M : Mem), F10_copy_b154 v1 v2 v3 v4 v5 M = some q → ∀ (H : Heap) (locs : List Loc) (ls : Array Slot), lv_has ls 7 [(0, .ref (g.1 108)), (3, .int v3), (4, .int v4), (5, .int v5)] → va_P g.2.2.1 vwCl (wL g mc M) H → va_S (AA g s.heap.size) s.heap H locs → W p l e { frames := 2, cells := 0, slots := 0, locals := 45 } s m args below meth c H locs 0 0 (MQ below (QI g s.heap.size q.1 (mc, q.2)) args s 0 0 (AA g s.heap.size)) (F0 m 154 ls []) := by
    intro M hF H locs ls hl hP hS
    unfold F10_copy_b154 at hF
    refine lv_iconst (v := (0 : Int32)) hx hb dX10_copy_154 ic_0 ?_
    refine lv_istore (lv' := [(6, .int (0 : Int32)), (0, .ref (g.1 108)), (3, .int v3), (4, .int v4), (5, .int v5)]) hx hb dX10_copy_155 hl (Nat.le_of_ble_eq_true rfl) rfl (fun ls hl => ?_)
    exact (hL157 FU) _ _ hF _ _ _ (lv_sub hl [1, 2, 3, 4, 0] rfl) hP hS
  have hL120 : ∀ (kx154 : Mem → Option (Int32 × Mem)), (∀  (M : Mem), kx154 M = some q → ∀ (H : Heap) (locs : List Loc) (ls : Array Slot), lv_has ls 7 [(0, .ref (g.1 108)), (3, .int v3), (4, .int v4), (5, .int v5)] → va_P g.2.2.1 vwCl (wL g mc M) H → va_S (AA g s.heap.size) s.heap H locs → W p l e { frames := 2, cells := 0, slots := 0, locals := 45 } s m args below meth c H locs 0 0 (MQ below (QI g s.heap.size q.1 (mc, q.2)) args s 0 0 (AA g s.heap.size)) (F0 m 154 ls [])) → ∀ n : Nat, ∀ (a6 : Int32) (M : Mem), F10_copy_h120 kx154 v1 v2 v3 v4 v5 n a6 M = some q → ∀ (H : Heap) (locs : List Loc) (ls : Array Slot), lv_has ls 7 [(0, .ref (g.1 108)), (1, .int v1), (2, .int v2), (3, .int v3), (4, .int v4), (5, .int v5), (6, .int a6)] → va_P g.2.2.1 vwCl (wL g mc M) H → va_S (AA g s.heap.size) s.heap H locs → W p l e { frames := 2, cells := 0, slots := 0, locals := 45 } s m args below meth c H locs 0 0 (MQ below (QI g s.heap.size q.1 (mc, q.2)) args s 0 0 (AA g s.heap.size)) (F0 m 120 ls []) := by
    intro kx154 hx154 n
    induction n with
    | zero => intro a6 M hF H locs ls hl hP hS; exact absurd hF (fun z => nomatch (show (none : Option _) = some q from z))
    | succ n ih =>
      generalize hkh : F10_copy_h120 kx154 v1 v2 v3 v4 v5 n = kh at ih
      intro a6 M hF H locs ls hl hP hS
      have hF : F10_copy_p120 (F10_copy_h120 kx154 v1 v2 v3 v4 v5 n) kx154 v1 v2 v3 v4 v5 a6 M = some q := hF
      rw [hkh] at hF
      unfold F10_copy_p120 at hF
      refine lv_iload hx hb dX10_copy_120 (lv_at hl 6 rfl) ?_
      refine lv_iload hx hb dX10_copy_122 (lv_at hl 5 rfl) ?_
      refine lv_icmp_ge (tgt := 154) hx hb dX10_copy_124 rfl (fun hc => ?_) (fun hc => ?_)
      · have hF := (if_pos hc).symm.trans hF
        exact hx154 _ hF _ _ _ (lv_sub hl [0, 3, 4, 5] rfl) hP hS
      · have hF := (if_neg hc).symm.trans hF
        refine lv_aload_n hx hb dX10_copy_127 rfl (lv_at hl 0 rfl) ?_
        refine gf10_3 Z hP wd_6_7 dX10_copy_128 ?_
        refine lv_iload hx hb dX10_copy_131 (lv_at hl 6 rfl) ?_
        refine lv_aload_n hx hb dX10_copy_133 rfl (lv_at hl 0 rfl) ?_
        refine gf10_2 Z hP wd_6_6 dX10_copy_134 ?_
        refine lv_bipush (v := (60 : Int32)) hx hb dX10_copy_137 bp_60 ?_
        refine lv_iload_n hx hb dX10_copy_139 rfl (lv_at hl 1 rfl) ?_
        refine lv_imul hx hb dX10_copy_140 ?_
        refine lv_iload_n hx hb dX10_copy_141 rfl (lv_at hl 2 rfl) ?_
        refine lv_iadd hx hb dX10_copy_142 ?_
        refine lv_iload hx hb dX10_copy_143 (lv_at hl 6 rfl) ?_
        refine lv_iadd hx hb dX10_copy_145 ?_
        obtain ⟨hi20, hF⟩ := ck_ok hF
        refine rM_ld Z hP 240 3 (by decide +kernel) hi20 dX10_copy_146 ?_
        obtain ⟨hi21, hF⟩ := ck_ok hF
        refine rM_st Z hP hS 60 4 (by decide +kernel) hi21 dX10_copy_147 (fun H locs hP hS => ?_)
        refine lv_iinc (lv' := [(6, .int (a6 + (1 : Int32))), (0, .ref (g.1 108)), (1, .int v1), (2, .int v2), (3, .int v3), (4, .int v4), (5, .int v5)]) (v := (a6 + (1 : Int32))) hx hb dX10_copy_148 hl (k := 6) rfl (io_1 _) (Nat.le_of_ble_eq_true rfl) rfl (fun ls hl => ?_)
        refine lv_goto (tgt := 120) hx hb dX10_copy_151 rfl ?_
        exact ih _ _ hF _ _ _ (lv_sub hl [1, 2, 3, 4, 5, 6, 0] rfl) hP hS
  refine lv_iload_n hx hb dX10_copy_0 rfl (lv_at hl 1 rfl) ?_
  obtain ⟨q22, hq22, hF⟩ := bd_ok hF
  refine xX10_isSheet Z hP hS hq22 wd_19_21 hl.1 (Nat.le_of_ble_eq_true rfl) ⟨Nat.le_of_ble_eq_true rfl, Nat.le_of_ble_eq_true rfl⟩ dX10_copy_1 (fun H locs hP hS => ?_)
  refine lv_if_eq (tgt := 14) hx hb dX10_copy_4 rfl (fun hc => ?_) (fun hc => ?_)
  · have hF := (if_pos hc).symm.trans hF
    refine lv_bipush (v := (-2 : Int32)) hx hb dX10_copy_14 bp_m2 ?_
    exact ret_IWM Z hr hlk hP hS hF dX10_copy_16
  · have hF := (if_neg hc).symm.trans hF
    refine lv_iload_n hx hb dX10_copy_7 rfl (lv_at hl 3 rfl) ?_
    obtain ⟨q23, hq23, hF⟩ := bd_ok hF
    refine xX10_isSheet Z hP hS hq23 wd_19_21 hl.1 (Nat.le_of_ble_eq_true rfl) ⟨Nat.le_of_ble_eq_true rfl, Nat.le_of_ble_eq_true rfl⟩ dX10_copy_8 (fun H locs hP hS => ?_)
    refine lv_if_ne (tgt := 17) hx hb dX10_copy_11 rfl (fun hc => ?_) (fun hc => ?_)
    · have hF := (if_neg hc).symm.trans hF
      refine lv_aload_n hx hb dX10_copy_17 rfl (lv_at hl 0 rfl) ?_
      refine gf10_0 Z hP wd_6_4 dX10_copy_18 ?_
      refine lv_iload_n hx hb dX10_copy_21 rfl (lv_at hl 1 rfl) ?_
      obtain ⟨hi24, hF⟩ := ck_ok hF
      refine rM_ld Z hP 4 1 (by decide +kernel) hi24 dX10_copy_22 ?_
      refine lv_if_lt (tgt := 35) hx hb dX10_copy_23 rfl (fun hc => ?_) (fun hc => ?_)
      · have hF := (if_pos hc).symm.trans hF
        exact hb35 _ hF _ _ _ (lv_sub hl [0] rfl) hP hS
      · have hF := (if_neg hc).symm.trans hF
        refine lv_aload_n hx hb dX10_copy_26 rfl (lv_at hl 0 rfl) ?_
        refine gf10_0 Z hP wd_6_4 dX10_copy_27 ?_
        refine lv_iload_n hx hb dX10_copy_30 rfl (lv_at hl 3 rfl) ?_
        obtain ⟨hi25, hF⟩ := ck_ok hF
        refine rM_ld Z hP 4 1 (by decide +kernel) hi25 dX10_copy_31 ?_
        refine lv_if_ge (tgt := 41) hx hb dX10_copy_32 rfl (fun hc => ?_) (fun hc => ?_)
        · have hF := (if_pos hc).symm.trans hF
          refine lv_aload_n hx hb dX10_copy_41 rfl (lv_at hl 0 rfl) ?_
          refine gf10_0 Z hP wd_6_4 dX10_copy_42 ?_
          refine lv_iload_n hx hb dX10_copy_45 rfl (lv_at hl 1 rfl) ?_
          obtain ⟨hi26, hF⟩ := ck_ok hF
          refine rM_ld Z hP 4 1 (by decide +kernel) hi26 dX10_copy_46 ?_
          refine lv_aload_n hx hb dX10_copy_47 rfl (lv_at hl 0 rfl) ?_
          refine gf10_0 Z hP wd_6_4 dX10_copy_48 ?_
          refine lv_iload_n hx hb dX10_copy_51 rfl (lv_at hl 3 rfl) ?_
          obtain ⟨hi27, hF⟩ := ck_ok hF
          refine rM_ld Z hP 4 1 (by decide +kernel) hi27 dX10_copy_52 ?_
          refine lv_icmp_eq (tgt := 62) hx hb dX10_copy_53 rfl (fun hc => ?_) (fun hc => ?_)
          · have hF := (if_pos hc).symm.trans hF
            refine lv_iload_n hx hb dX10_copy_62 rfl (lv_at hl 2 rfl) ?_
            refine lv_if_lt (tgt := 111) hx hb dX10_copy_63 rfl (fun hc => ?_) (fun hc => ?_)
            · have hF := (if_pos hc).symm.trans hF
              exact hb111 _ hF _ _ _ (lv_sub hl [0] rfl) hP hS
            · have hF := (if_neg hc).symm.trans hF
              refine lv_iload hx hb dX10_copy_66 (lv_at hl 4 rfl) ?_
              refine lv_if_lt (tgt := 111) hx hb dX10_copy_68 rfl (fun hc => ?_) (fun hc => ?_)
              · have hF := (if_pos hc).symm.trans hF
                exact hb111 _ hF _ _ _ (lv_sub hl [0] rfl) hP hS
              · have hF := (if_neg hc).symm.trans hF
                refine lv_iload hx hb dX10_copy_71 (lv_at hl 5 rfl) ?_
                refine lv_if_lt (tgt := 111) hx hb dX10_copy_73 rfl (fun hc => ?_) (fun hc => ?_)
                · have hF := (if_pos hc).symm.trans hF
                  exact hb111 _ hF _ _ _ (lv_sub hl [0] rfl) hP hS
                · have hF := (if_neg hc).symm.trans hF
                  refine lv_iload_n hx hb dX10_copy_76 rfl (lv_at hl 2 rfl) ?_
                  refine lv_i2l (v := v2.toInt64) hx hb dX10_copy_77 rfl ?_
                  refine lv_iload hx hb dX10_copy_78 (lv_at hl 5 rfl) ?_
                  refine lv_i2l (v := v5.toInt64) hx hb dX10_copy_80 rfl ?_
                  refine lv_ladd hx hb dX10_copy_81 ?_
                  refine lv_aload_n hx hb dX10_copy_82 rfl (lv_at hl 0 rfl) ?_
                  refine gf10_1 Z hP wd_6_5 dX10_copy_83 ?_
                  refine lv_iload_n hx hb dX10_copy_86 rfl (lv_at hl 1 rfl) ?_
                  obtain ⟨hi28, hF⟩ := ck_ok hF
                  refine rM_ld Z hP 4 2 (by decide +kernel) hi28 dX10_copy_87 ?_
                  refine lv_i2l (v := (mm 2 v1.toNatClampNeg).toInt64) hx hb dX10_copy_88 rfl ?_
                  refine W.lcmp hx hb dX10_copy_89 ?_
                  refine lv_if_gt (tgt := 111) hx hb dX10_copy_90 rfl (fun hc => ?_) (fun hc => ?_)
                  · have hF := (if_pos hc).symm.trans hF
                    exact hb111 _ hF _ _ _ (lv_sub hl [0] rfl) hP hS
                  · have hF := (if_neg hc).symm.trans hF
                    refine lv_iload hx hb dX10_copy_93 (lv_at hl 4 rfl) ?_
                    refine lv_i2l (v := v4.toInt64) hx hb dX10_copy_95 rfl ?_
                    refine lv_iload hx hb dX10_copy_96 (lv_at hl 5 rfl) ?_
                    refine lv_i2l (v := v5.toInt64) hx hb dX10_copy_98 rfl ?_
                    refine lv_ladd hx hb dX10_copy_99 ?_
                    refine lv_aload_n hx hb dX10_copy_100 rfl (lv_at hl 0 rfl) ?_
                    refine gf10_1 Z hP wd_6_5 dX10_copy_101 ?_
                    refine lv_iload_n hx hb dX10_copy_104 rfl (lv_at hl 3 rfl) ?_
                    obtain ⟨hi29, hF⟩ := ck_ok hF
                    refine rM_ld Z hP 4 2 (by decide +kernel) hi29 dX10_copy_105 ?_
                    refine lv_i2l (v := (mm 2 v3.toNatClampNeg).toInt64) hx hb dX10_copy_106 rfl ?_
                    refine W.lcmp hx hb dX10_copy_107 ?_
                    refine lv_if_le (tgt := 117) hx hb dX10_copy_108 rfl (fun hc => ?_) (fun hc => ?_)
                    · have hF := (if_pos hc).symm.trans hF
                      refine lv_iconst (v := (0 : Int32)) hx hb dX10_copy_117 ic_0 ?_
                      refine lv_istore (lv' := [(6, .int (0 : Int32)), (0, .ref (g.1 108)), (1, .int v1), (2, .int v2), (3, .int v3), (4, .int v4), (5, .int v5)]) hx hb dX10_copy_118 hl (Nat.le_of_ble_eq_true rfl) rfl (fun ls hl => ?_)
                      exact (hL120 _ hb154 FU) _ _ hF _ _ _ (lv_sub hl [1, 2, 3, 4, 5, 6, 0] rfl) hP hS
                    · have hF := (if_neg hc).symm.trans hF
                      exact hb111 _ hF _ _ _ (lv_sub hl [0] rfl) hP hS
          · have hF := (if_neg hc).symm.trans hF
            refine lv_aload_n hx hb dX10_copy_56 rfl (lv_at hl 0 rfl) ?_
            refine lv_iconst (v := (4 : Int32)) hx hb dX10_copy_57 ic_4 ?_
            obtain ⟨q30, hq30, hF⟩ := bd_ok hF
            refine xX10_finds Z hP hS hq30 wd_20_0 hl.1 (Nat.le_of_ble_eq_true rfl) ⟨Nat.le_of_ble_eq_true rfl, Nat.le_of_ble_eq_true rfl⟩ dX10_copy_58 (fun H locs hP hS => ?_)
            exact ret_IWM Z hr hlk hP hS hF dX10_copy_61
        · have hF := (if_neg hc).symm.trans hF
          exact hb35 _ hF _ _ _ (lv_sub hl [0] rfl) hP hS
    · have hF := (if_pos hc).symm.trans hF
      refine lv_bipush (v := (-2 : Int32)) hx hb dX10_copy_14 bp_m2 ?_
      exact ret_IWM Z hr hlk hP hS hF dX10_copy_16
theorem xX10_copy {p : Program} {l : Launch} {e : Env} {R : Room} {s : State} {m : MethodId} {args : Array Value} {below : List Frame} {meth : Method} {c : Code} {H : Heap} {locs : List Loc} {Q : State → Prop} {cc : ByteArray} {nL : Nat} {own : String} {g : GG} {pc index : Nat} {ls : Array Slot} {rest : List Value} {mc mm : Mem} (Z : ZZ p s m args c cc nL own g) (hP : va_P g.2.2.1 vwCl (wL g mc mm) H) (hS : va_S (AA g s.heap.size) s.heap H locs) {v1 : Int32} {v2 : Int32} {v3 : Int32} {v4 : Int32} {v5 : Int32} {q : Int32 × Mem} (hq : F10_copy v1 v2 v3 v4 v5 mm = some q) (hlk : Cond.methodLink own index yX10_copy ∈ wsL_law) (hsz : ls.size = nL) (hro : (rest.map fun v => v.category).sum ≤ 8) (hR : 2 + 1 ≤ R.frames ∧ 8 + (7 + 11) + 45 ≤ R.locals) (hdg : decode cc pc = .ok (.invokevirtual index, 3)) (kk : ∀ (H : Heap) (locs : List Loc), va_P g.2.2.1 vwCl (wL g mc q.2) H → va_S (AA g s.heap.size) s.heap H locs → W p l e R s m args below meth c H locs 0 0 Q (F0 m (pc + 3) ls (.int q.1 :: rest))) : W p l e R s m args below meth c H locs 0 0 Q (F0 m pc ls (.int v5 :: .int v4 :: .int v3 :: .int v2 :: .int v1 :: .ref (g.1 108) :: rest)) :=
  x_VI Z hP hS (kX10_copy l g v1 v2 v3 v4 v5 mc mm q hq) (mO) (ci := 10) (by decide) rfl rfl mf_X10_copy mv_X10_copy hlk rfl rfl hsz hro hR hdg kk
theorem dX10_type_0 : decode cX10_type 0 = .ok (.iload_n 1, 1) := by decide +kernel
theorem dX10_type_1 : decode cX10_type 1 = .ok (.invokestatic 111, 3) := by decide +kernel
theorem dX10_type_4 : decode cX10_type 4 = .ok (.ifCond .eq 15, 3) := by decide +kernel
theorem dX10_type_7 : decode cX10_type 7 = .ok (.iload_n 2, 1) := by decide +kernel
theorem dX10_type_8 : decode cX10_type 8 = .ok (.i2l, 1) := by decide +kernel
theorem dX10_type_9 : decode cX10_type 9 = .ok (.lconst 0, 1) := by decide +kernel
theorem dX10_type_10 : decode cX10_type 10 = .ok (.ldc2_w 114, 3) := by decide +kernel
theorem dX10_type_13 : decode cX10_type 13 = .ok (.invokestatic 83, 3) := by decide +kernel
theorem dX10_type_16 : decode cX10_type 16 = .ok (.ifCond .ne 6, 3) := by decide +kernel
theorem dX10_type_19 : decode cX10_type 19 = .ok (.bipush (-2), 2) := by decide +kernel
theorem dX10_type_21 : decode cX10_type 21 = .ok (.ireturn, 1) := by decide +kernel
theorem dX10_type_22 : decode cX10_type 22 = .ok (.aload_n 0, 1) := by decide +kernel
theorem dX10_type_23 : decode cX10_type 23 = .ok (.getfield 25, 3) := by decide +kernel
theorem dX10_type_26 : decode cX10_type 26 = .ok (.iload_n 1, 1) := by decide +kernel
theorem dX10_type_27 : decode cX10_type 27 = .ok (.iaload, 1) := by decide +kernel
theorem dX10_type_28 : decode cX10_type 28 = .ok (.iload_n 1, 1) := by decide +kernel
theorem dX10_type_29 : decode cX10_type 29 = .ok (.ifCond .ne 8, 3) := by decide +kernel
theorem dX10_type_32 : decode cX10_type 32 = .ok (.bipush 23, 2) := by decide +kernel
theorem dX10_type_34 : decode cX10_type 34 = .ok (.goto 5, 3) := by decide +kernel
theorem dX10_type_37 : decode cX10_type 37 = .ok (.bipush 63, 2) := by decide +kernel
theorem dX10_type_39 : decode cX10_type 39 = .ok (.if_icmp .ne 6, 3) := by decide +kernel
theorem dX10_type_42 : decode cX10_type 42 = .ok (.bipush (-4), 2) := by decide +kernel
theorem dX10_type_44 : decode cX10_type 44 = .ok (.ireturn, 1) := by decide +kernel
theorem dX10_type_45 : decode cX10_type 45 = .ok (.aload_n 0, 1) := by decide +kernel
theorem dX10_type_46 : decode cX10_type 46 = .ok (.getfield 22, 3) := by decide +kernel
theorem dX10_type_49 : decode cX10_type 49 = .ok (.bipush 64, 2) := by decide +kernel
theorem dX10_type_51 : decode cX10_type 51 = .ok (.iload_n 1, 1) := by decide +kernel
theorem dX10_type_52 : decode cX10_type 52 = .ok (.imul, 1) := by decide +kernel
theorem dX10_type_53 : decode cX10_type 53 = .ok (.aload_n 0, 1) := by decide +kernel
theorem dX10_type_54 : decode cX10_type 54 = .ok (.getfield 25, 3) := by decide +kernel
theorem dX10_type_57 : decode cX10_type 57 = .ok (.iload_n 1, 1) := by decide +kernel
theorem dX10_type_58 : decode cX10_type 58 = .ok (.iaload, 1) := by decide +kernel
theorem dX10_type_59 : decode cX10_type 59 = .ok (.iadd, 1) := by decide +kernel
theorem dX10_type_60 : decode cX10_type 60 = .ok (.iload_n 2, 1) := by decide +kernel
theorem dX10_type_61 : decode cX10_type 61 = .ok (.iastore, 1) := by decide +kernel
theorem dX10_type_62 : decode cX10_type 62 = .ok (.aload_n 0, 1) := by decide +kernel
theorem dX10_type_63 : decode cX10_type 63 = .ok (.getfield 25, 3) := by decide +kernel
theorem dX10_type_66 : decode cX10_type 66 = .ok (.iload_n 1, 1) := by decide +kernel
theorem dX10_type_67 : decode cX10_type 67 = .ok (.dup2, 1) := by decide +kernel
theorem dX10_type_68 : decode cX10_type 68 = .ok (.iaload, 1) := by decide +kernel
theorem dX10_type_69 : decode cX10_type 69 = .ok (.iconst 1, 1) := by decide +kernel
theorem dX10_type_70 : decode cX10_type 70 = .ok (.iadd, 1) := by decide +kernel
theorem dX10_type_71 : decode cX10_type 71 = .ok (.iastore, 1) := by decide +kernel
theorem dX10_type_72 : decode cX10_type 72 = .ok (.aload_n 0, 1) := by decide +kernel
theorem dX10_type_73 : decode cX10_type 73 = .ok (.getfield 25, 3) := by decide +kernel
theorem dX10_type_76 : decode cX10_type 76 = .ok (.iload_n 1, 1) := by decide +kernel
theorem dX10_type_77 : decode cX10_type 77 = .ok (.iaload, 1) := by decide +kernel
theorem dX10_type_78 : decode cX10_type 78 = .ok (.ireturn, 1) := by decide +kernel
noncomputable def F10_type_b39 (v1 : Int32) (v2 : Int32) (s0 : Int32) (s1 : Int32) (M : Mem) : Option (Int32 × Mem) :=
  (if s0 = s1 then some ((-4 : Int32), M) else (ck v1 2 (ck (((64 : Int32) * v1) + (M 6 v1.toNatClampNeg)) 128 (lt (mset M 5 (((64 : Int32) * v1) + (M 6 v1.toNatClampNeg)).toNatClampNeg v2) (fun M13 => (ck v1 2 (ck v1 2 (lt (mset M13 6 v1.toNatClampNeg ((M13 6 v1.toNatClampNeg) + (1 : Int32))) (fun M16 => (ck v1 2 (some ((M16 6 v1.toNatClampNeg), M16))))))))))))
noncomputable def F10_type (v1 : Int32) (v2 : Int32) (mm : Mem) : Option (Int32 × Mem) :=
  ((F10_isTwo v1).bind (fun q18 => (if q18 = (0 : Int32) then some ((-2 : Int32), mm) else ((F10_in v2.toInt64 (0 : Int64) (255 : Int64)).bind (fun q19 => (if q19 = (0 : Int32) then some ((-2 : Int32), mm) else (ck v1 2 (if v1 = (0 : Int32) then (F10_type_b39 v1 v2) (mm 6 v1.toNatClampNeg) (23 : Int32) mm else (F10_type_b39 v1 v2) (mm 6 v1.toNatClampNeg) (63 : Int32) mm))))))))
set_option maxHeartbeats 4000000 in
set_option maxRecDepth 100000 in
theorem kX10_type (l : Launch) (g : GG) (v1 : Int32) (v2 : Int32) (mc mm : Mem) (q : Int32 × Mem) (hF : F10_type v1 v2 mm = some q) : KI l yX10_type cX10_type 3 .int 2 45 g [.ref (g.1 108), .int v1, .int v2] mc mm q.1 (mc, q.2) := by
  intro sz
  refine x_start (Qc := fun z => QI g z q.1 (mc, q.2)) (by decide +kernel) (Nat.le_of_ble_eq_true rfl) ?_ sz
  intro p e s m args below meth c ls Z hr hlk hP hl
  have hx := Z.1.1
  have hb := Z.1.2.1
  have hown := Z.1.2.2.2.1
  have hts := Z.1.2.2.2.2
  have hS : va_S (AA g s.heap.size) s.heap s.heap [] := va_S.rf
  have hl : lv_has ls 3 [(0, .ref (g.1 108)), (1, .int v1), (2, .int v2)] := hl
  unfold F10_type at hF
  have hb39 : ∀ (s0 : Int32) (s1 : Int32) (M : Mem), F10_type_b39 v1 v2 s0 s1 M = some q → ∀ (H : Heap) (locs : List Loc) (ls : Array Slot), lv_has ls 3 [(0, .ref (g.1 108)), (1, .int v1), (2, .int v2)] → va_P g.2.2.1 vwCl (wL g mc M) H → va_S (AA g s.heap.size) s.heap H locs → W p l e { frames := 2, cells := 0, slots := 0, locals := 45 } s m args below meth c H locs 0 0 (MQ below (QI g s.heap.size q.1 (mc, q.2)) args s 0 0 (AA g s.heap.size)) (F0 m 39 ls [.int s1, .int s0]) := by
    intro s0 s1 M hF H locs ls hl hP hS
    unfold F10_type_b39 at hF
    refine lv_icmp_ne (tgt := 45) hx hb dX10_type_39 rfl (fun hc => ?_) (fun hc => ?_)
    · have hF := (if_neg hc).symm.trans hF
      refine lv_aload_n hx hb dX10_type_45 rfl (lv_at hl 0 rfl) ?_
      refine gf10_5 Z hP wd_6_8 dX10_type_46 ?_
      refine lv_bipush (v := (64 : Int32)) hx hb dX10_type_49 bp_64 ?_
      refine lv_iload_n hx hb dX10_type_51 rfl (lv_at hl 1 rfl) ?_
      refine lv_imul hx hb dX10_type_52 ?_
      refine lv_aload_n hx hb dX10_type_53 rfl (lv_at hl 0 rfl) ?_
      refine gf10_6 Z hP wd_6_9 dX10_type_54 ?_
      refine lv_iload_n hx hb dX10_type_57 rfl (lv_at hl 1 rfl) ?_
      obtain ⟨hi11, hF⟩ := ck_ok hF
      refine rM_ld Z hP 2 6 (by decide +kernel) hi11 dX10_type_58 ?_
      refine lv_iadd hx hb dX10_type_59 ?_
      refine lv_iload_n hx hb dX10_type_60 rfl (lv_at hl 2 rfl) ?_
      obtain ⟨hi12, hF⟩ := ck_ok hF
      refine rM_st Z hP hS 128 5 (by decide +kernel) hi12 dX10_type_61 (fun H locs hP hS => ?_)
      refine lv_aload_n hx hb dX10_type_62 rfl (lv_at hl 0 rfl) ?_
      refine gf10_6 Z hP wd_6_9 dX10_type_63 ?_
      refine lv_iload_n hx hb dX10_type_66 rfl (lv_at hl 1 rfl) ?_
      refine lv_dup2_11 hx hb dX10_type_67 rfl rfl ?_
      obtain ⟨M13, eM13, hF⟩ := lt_ok hF
      have hP : va_P g.2.2.1 vwCl (wL g mc M13) H := by rw [eM13]; exact hP
      obtain ⟨hi14, hF⟩ := ck_ok hF
      refine rM_ld Z hP 2 6 (by decide +kernel) hi14 dX10_type_68 ?_
      refine lv_iconst (v := (1 : Int32)) hx hb dX10_type_69 ic_1 ?_
      refine lv_iadd hx hb dX10_type_70 ?_
      obtain ⟨hi15, hF⟩ := ck_ok hF
      refine rM_st Z hP hS 2 6 (by decide +kernel) hi15 dX10_type_71 (fun H locs hP hS => ?_)
      refine lv_aload_n hx hb dX10_type_72 rfl (lv_at hl 0 rfl) ?_
      refine gf10_6 Z hP wd_6_9 dX10_type_73 ?_
      refine lv_iload_n hx hb dX10_type_76 rfl (lv_at hl 1 rfl) ?_
      obtain ⟨M16, eM16, hF⟩ := lt_ok hF
      have hP : va_P g.2.2.1 vwCl (wL g mc M16) H := by rw [eM16]; exact hP
      obtain ⟨hi17, hF⟩ := ck_ok hF
      refine rM_ld Z hP 2 6 (by decide +kernel) hi17 dX10_type_77 ?_
      exact ret_IWM Z hr hlk hP hS hF dX10_type_78
    · have hF := (if_pos hc).symm.trans hF
      refine lv_bipush (v := (-4 : Int32)) hx hb dX10_type_42 bp_m4 ?_
      exact ret_IWM Z hr hlk hP hS hF dX10_type_44
  refine lv_iload_n hx hb dX10_type_0 rfl (lv_at hl 1 rfl) ?_
  obtain ⟨q18, hq18, hF⟩ := bd_ok hF
  refine xX10_isTwo Z hP hS hq18 wd_13_5 hl.1 (Nat.le_of_ble_eq_true rfl) ⟨Nat.le_of_ble_eq_true rfl, Nat.le_of_ble_eq_true rfl⟩ dX10_type_1 (fun H locs hP hS => ?_)
  refine lv_if_eq (tgt := 19) hx hb dX10_type_4 rfl (fun hc => ?_) (fun hc => ?_)
  · have hF := (if_pos hc).symm.trans hF
    refine lv_bipush (v := (-2 : Int32)) hx hb dX10_type_19 bp_m2 ?_
    exact ret_IWM Z hr hlk hP hS hF dX10_type_21
  · have hF := (if_neg hc).symm.trans hF
    refine lv_iload_n hx hb dX10_type_7 rfl (lv_at hl 2 rfl) ?_
    refine lv_i2l (v := v2.toInt64) hx hb dX10_type_8 rfl ?_
    refine lv_lconst (v := (0 : Int64)) hx hb dX10_type_9 lc_0 ?_
    refine lv_ldc2 (v := (255 : Int64)) hx hb hown (hts _ wd_13_4) dX10_type_10 ?_
    obtain ⟨q19, hq19, hF⟩ := bd_ok hF
    refine xX10_in Z hP hS hq19 wd_13_8 hl.1 (Nat.le_of_ble_eq_true rfl) ⟨Nat.le_of_ble_eq_true rfl, Nat.le_of_ble_eq_true rfl⟩ dX10_type_13 (fun H locs hP hS => ?_)
    refine lv_if_ne (tgt := 22) hx hb dX10_type_16 rfl (fun hc => ?_) (fun hc => ?_)
    · have hF := (if_neg hc).symm.trans hF
      refine lv_aload_n hx hb dX10_type_22 rfl (lv_at hl 0 rfl) ?_
      refine gf10_6 Z hP wd_6_9 dX10_type_23 ?_
      refine lv_iload_n hx hb dX10_type_26 rfl (lv_at hl 1 rfl) ?_
      obtain ⟨hi20, hF⟩ := ck_ok hF
      refine rM_ld Z hP 2 6 (by decide +kernel) hi20 dX10_type_27 ?_
      refine lv_iload_n hx hb dX10_type_28 rfl (lv_at hl 1 rfl) ?_
      refine lv_if_ne (tgt := 37) hx hb dX10_type_29 rfl (fun hc => ?_) (fun hc => ?_)
      · have hF := (if_neg hc).symm.trans hF
        refine lv_bipush (v := (63 : Int32)) hx hb dX10_type_37 bp_63 ?_
        exact hb39 _ _ _ hF _ _ _ (lv_sub hl [0, 1, 2] rfl) hP hS
      · have hF := (if_pos hc).symm.trans hF
        refine lv_bipush (v := (23 : Int32)) hx hb dX10_type_32 bp_23 ?_
        refine lv_goto (tgt := 39) hx hb dX10_type_34 rfl ?_
        exact hb39 _ _ _ hF _ _ _ (lv_sub hl [0, 1, 2] rfl) hP hS
    · have hF := (if_pos hc).symm.trans hF
      refine lv_bipush (v := (-2 : Int32)) hx hb dX10_type_19 bp_m2 ?_
      exact ret_IWM Z hr hlk hP hS hF dX10_type_21
theorem xX10_type {p : Program} {l : Launch} {e : Env} {R : Room} {s : State} {m : MethodId} {args : Array Value} {below : List Frame} {meth : Method} {c : Code} {H : Heap} {locs : List Loc} {Q : State → Prop} {cc : ByteArray} {nL : Nat} {own : String} {g : GG} {pc index : Nat} {ls : Array Slot} {rest : List Value} {mc mm : Mem} (Z : ZZ p s m args c cc nL own g) (hP : va_P g.2.2.1 vwCl (wL g mc mm) H) (hS : va_S (AA g s.heap.size) s.heap H locs) {v1 : Int32} {v2 : Int32} {q : Int32 × Mem} (hq : F10_type v1 v2 mm = some q) (hlk : Cond.methodLink own index yX10_type ∈ wsL_law) (hsz : ls.size = nL) (hro : (rest.map fun v => v.category).sum ≤ 8) (hR : 2 + 1 ≤ R.frames ∧ 8 + (3 + 11) + 45 ≤ R.locals) (hdg : decode cc pc = .ok (.invokevirtual index, 3)) (kk : ∀ (H : Heap) (locs : List Loc), va_P g.2.2.1 vwCl (wL g mc q.2) H → va_S (AA g s.heap.size) s.heap H locs → W p l e R s m args below meth c H locs 0 0 Q (F0 m (pc + 3) ls (.int q.1 :: rest))) : W p l e R s m args below meth c H locs 0 0 Q (F0 m pc ls (.int v2 :: .int v1 :: .ref (g.1 108) :: rest)) :=
  x_VI Z hP hS (kX10_type l g v1 v2 mc mm q hq) (mO) (ci := 10) (by decide) rfl rfl mf_X10_type mv_X10_type hlk rfl rfl hsz hro hR hdg kk
theorem dX10_wipe_0 : decode cX10_wipe 0 = .ok (.iload_n 1, 1) := by decide +kernel
theorem dX10_wipe_1 : decode cX10_wipe 1 = .ok (.invokestatic 111, 3) := by decide +kernel
theorem dX10_wipe_4 : decode cX10_wipe 4 = .ok (.ifCond .ne 6, 3) := by decide +kernel
theorem dX10_wipe_7 : decode cX10_wipe 7 = .ok (.bipush (-2), 2) := by decide +kernel
theorem dX10_wipe_9 : decode cX10_wipe 9 = .ok (.ireturn, 1) := by decide +kernel
theorem dX10_wipe_10 : decode cX10_wipe 10 = .ok (.aload_n 0, 1) := by decide +kernel
theorem dX10_wipe_11 : decode cX10_wipe 11 = .ok (.getfield 25, 3) := by decide +kernel
theorem dX10_wipe_14 : decode cX10_wipe 14 = .ok (.iload_n 1, 1) := by decide +kernel
theorem dX10_wipe_15 : decode cX10_wipe 15 = .ok (.iaload, 1) := by decide +kernel
theorem dX10_wipe_16 : decode cX10_wipe 16 = .ok (.istore_n 2, 1) := by decide +kernel
theorem dX10_wipe_17 : decode cX10_wipe 17 = .ok (.aload_n 0, 1) := by decide +kernel
theorem dX10_wipe_18 : decode cX10_wipe 18 = .ok (.getfield 25, 3) := by decide +kernel
theorem dX10_wipe_21 : decode cX10_wipe 21 = .ok (.iload_n 1, 1) := by decide +kernel
theorem dX10_wipe_22 : decode cX10_wipe 22 = .ok (.iconst 0, 1) := by decide +kernel
theorem dX10_wipe_23 : decode cX10_wipe 23 = .ok (.iastore, 1) := by decide +kernel
theorem dX10_wipe_24 : decode cX10_wipe 24 = .ok (.iload_n 2, 1) := by decide +kernel
theorem dX10_wipe_25 : decode cX10_wipe 25 = .ok (.ireturn, 1) := by decide +kernel
noncomputable def F10_wipe (v1 : Int32) (mm : Mem) : Option (Int32 × Mem) :=
  ((F10_isTwo v1).bind (fun q4 => (if q4 = (0 : Int32) then some ((-2 : Int32), mm) else (ck v1 2 (ck v1 2 (some ((mm 6 v1.toNatClampNeg), (mset mm 6 v1.toNatClampNeg (0 : Int32)))))))))
set_option maxHeartbeats 4000000 in
set_option maxRecDepth 100000 in
theorem kX10_wipe (l : Launch) (g : GG) (v1 : Int32) (mc mm : Mem) (q : Int32 × Mem) (hF : F10_wipe v1 mm = some q) : KI l yX10_wipe cX10_wipe 3 .int 2 45 g [.ref (g.1 108), .int v1] mc mm q.1 (mc, q.2) := by
  intro sz
  refine x_start (Qc := fun z => QI g z q.1 (mc, q.2)) (by decide +kernel) (Nat.le_of_ble_eq_true rfl) ?_ sz
  intro p e s m args below meth c ls Z hr hlk hP hl
  have hx := Z.1.1
  have hb := Z.1.2.1
  have hown := Z.1.2.2.2.1
  have hts := Z.1.2.2.2.2
  have hS : va_S (AA g s.heap.size) s.heap s.heap [] := va_S.rf
  have hl : lv_has ls 3 [(0, .ref (g.1 108)), (1, .int v1)] := hl
  unfold F10_wipe at hF
  refine lv_iload_n hx hb dX10_wipe_0 rfl (lv_at hl 1 rfl) ?_
  obtain ⟨q4, hq4, hF⟩ := bd_ok hF
  refine xX10_isTwo Z hP hS hq4 wd_13_5 hl.1 (Nat.le_of_ble_eq_true rfl) ⟨Nat.le_of_ble_eq_true rfl, Nat.le_of_ble_eq_true rfl⟩ dX10_wipe_1 (fun H locs hP hS => ?_)
  refine lv_if_ne (tgt := 10) hx hb dX10_wipe_4 rfl (fun hc => ?_) (fun hc => ?_)
  · have hF := (if_neg hc).symm.trans hF
    refine lv_aload_n hx hb dX10_wipe_10 rfl (lv_at hl 0 rfl) ?_
    refine gf10_6 Z hP wd_6_9 dX10_wipe_11 ?_
    refine lv_iload_n hx hb dX10_wipe_14 rfl (lv_at hl 1 rfl) ?_
    obtain ⟨hi5, hF⟩ := ck_ok hF
    refine rM_ld Z hP 2 6 (by decide +kernel) hi5 dX10_wipe_15 ?_
    refine lv_istore_n (lv' := [(2, .int (mm 6 v1.toNatClampNeg)), (0, .ref (g.1 108)), (1, .int v1)]) hx hb dX10_wipe_16 rfl hl (Nat.le_of_ble_eq_true rfl) rfl (fun ls hl => ?_)
    refine lv_aload_n hx hb dX10_wipe_17 rfl (lv_at hl 1 rfl) ?_
    refine gf10_6 Z hP wd_6_9 dX10_wipe_18 ?_
    refine lv_iload_n hx hb dX10_wipe_21 rfl (lv_at hl 2 rfl) ?_
    refine lv_iconst (v := (0 : Int32)) hx hb dX10_wipe_22 ic_0 ?_
    obtain ⟨hi6, hF⟩ := ck_ok hF
    refine rM_st Z hP hS 2 6 (by decide +kernel) hi6 dX10_wipe_23 (fun H locs hP hS => ?_)
    refine lv_iload_n hx hb dX10_wipe_24 rfl (lv_at hl 0 rfl) ?_
    exact ret_IWM Z hr hlk hP hS hF dX10_wipe_25
  · have hF := (if_pos hc).symm.trans hF
    refine lv_bipush (v := (-2 : Int32)) hx hb dX10_wipe_7 bp_m2 ?_
    exact ret_IWM Z hr hlk hP hS hF dX10_wipe_9
theorem xX10_wipe {p : Program} {l : Launch} {e : Env} {R : Room} {s : State} {m : MethodId} {args : Array Value} {below : List Frame} {meth : Method} {c : Code} {H : Heap} {locs : List Loc} {Q : State → Prop} {cc : ByteArray} {nL : Nat} {own : String} {g : GG} {pc index : Nat} {ls : Array Slot} {rest : List Value} {mc mm : Mem} (Z : ZZ p s m args c cc nL own g) (hP : va_P g.2.2.1 vwCl (wL g mc mm) H) (hS : va_S (AA g s.heap.size) s.heap H locs) {v1 : Int32} {q : Int32 × Mem} (hq : F10_wipe v1 mm = some q) (hlk : Cond.methodLink own index yX10_wipe ∈ wsL_law) (hsz : ls.size = nL) (hro : (rest.map fun v => v.category).sum ≤ 8) (hR : 2 + 1 ≤ R.frames ∧ 8 + (3 + 11) + 45 ≤ R.locals) (hdg : decode cc pc = .ok (.invokevirtual index, 3)) (kk : ∀ (H : Heap) (locs : List Loc), va_P g.2.2.1 vwCl (wL g mc q.2) H → va_S (AA g s.heap.size) s.heap H locs → W p l e R s m args below meth c H locs 0 0 Q (F0 m (pc + 3) ls (.int q.1 :: rest))) : W p l e R s m args below meth c H locs 0 0 Q (F0 m pc ls (.int v1 :: .ref (g.1 108) :: rest)) :=
  x_VI Z hP hS (kX10_wipe l g v1 mc mm q hq) (mO) (ci := 10) (by decide) rfl rfl mf_X10_wipe mv_X10_wipe hlk rfl rfl hsz hro hR hdg kk
theorem dX10_undo_0 : decode cX10_undo 0 = .ok (.iload_n 1, 1) := by decide +kernel
theorem dX10_undo_1 : decode cX10_undo 1 = .ok (.invokestatic 111, 3) := by decide +kernel
theorem dX10_undo_4 : decode cX10_undo 4 = .ok (.ifCond .ne 6, 3) := by decide +kernel
theorem dX10_undo_7 : decode cX10_undo 7 = .ok (.bipush (-2), 2) := by decide +kernel
theorem dX10_undo_9 : decode cX10_undo 9 = .ok (.ireturn, 1) := by decide +kernel
theorem dX10_undo_10 : decode cX10_undo 10 = .ok (.aload_n 0, 1) := by decide +kernel
theorem dX10_undo_11 : decode cX10_undo 11 = .ok (.getfield 25, 3) := by decide +kernel
theorem dX10_undo_14 : decode cX10_undo 14 = .ok (.iload_n 1, 1) := by decide +kernel
theorem dX10_undo_15 : decode cX10_undo 15 = .ok (.iaload, 1) := by decide +kernel
theorem dX10_undo_16 : decode cX10_undo 16 = .ok (.ifCond .ne 6, 3) := by decide +kernel
theorem dX10_undo_19 : decode cX10_undo 19 = .ok (.bipush (-3), 2) := by decide +kernel
theorem dX10_undo_21 : decode cX10_undo 21 = .ok (.ireturn, 1) := by decide +kernel
theorem dX10_undo_22 : decode cX10_undo 22 = .ok (.aload_n 0, 1) := by decide +kernel
theorem dX10_undo_23 : decode cX10_undo 23 = .ok (.getfield 25, 3) := by decide +kernel
theorem dX10_undo_26 : decode cX10_undo 26 = .ok (.iload_n 1, 1) := by decide +kernel
theorem dX10_undo_27 : decode cX10_undo 27 = .ok (.dup2, 1) := by decide +kernel
theorem dX10_undo_28 : decode cX10_undo 28 = .ok (.iaload, 1) := by decide +kernel
theorem dX10_undo_29 : decode cX10_undo 29 = .ok (.iconst 1, 1) := by decide +kernel
theorem dX10_undo_30 : decode cX10_undo 30 = .ok (.isub, 1) := by decide +kernel
theorem dX10_undo_31 : decode cX10_undo 31 = .ok (.iastore, 1) := by decide +kernel
theorem dX10_undo_32 : decode cX10_undo 32 = .ok (.aload_n 0, 1) := by decide +kernel
theorem dX10_undo_33 : decode cX10_undo 33 = .ok (.getfield 25, 3) := by decide +kernel
theorem dX10_undo_36 : decode cX10_undo 36 = .ok (.iload_n 1, 1) := by decide +kernel
theorem dX10_undo_37 : decode cX10_undo 37 = .ok (.iaload, 1) := by decide +kernel
theorem dX10_undo_38 : decode cX10_undo 38 = .ok (.ireturn, 1) := by decide +kernel
noncomputable def F10_undo (v1 : Int32) (mm : Mem) : Option (Int32 × Mem) :=
  ((F10_isTwo v1).bind (fun q7 => (if q7 = (0 : Int32) then some ((-2 : Int32), mm) else (ck v1 2 (if (mm 6 v1.toNatClampNeg) = (0 : Int32) then some ((-3 : Int32), mm) else (ck v1 2 (ck v1 2 (lt (mset mm 6 v1.toNatClampNeg ((mm 6 v1.toNatClampNeg) - (1 : Int32))) (fun M11 => (ck v1 2 (some ((M11 6 v1.toNatClampNeg), M11))))))))))))
set_option maxHeartbeats 4000000 in
set_option maxRecDepth 100000 in
theorem kX10_undo (l : Launch) (g : GG) (v1 : Int32) (mc mm : Mem) (q : Int32 × Mem) (hF : F10_undo v1 mm = some q) : KI l yX10_undo cX10_undo 2 .int 2 45 g [.ref (g.1 108), .int v1] mc mm q.1 (mc, q.2) := by
  intro sz
  refine x_start (Qc := fun z => QI g z q.1 (mc, q.2)) (by decide +kernel) (Nat.le_of_ble_eq_true rfl) ?_ sz
  intro p e s m args below meth c ls Z hr hlk hP hl
  have hx := Z.1.1
  have hb := Z.1.2.1
  have hown := Z.1.2.2.2.1
  have hts := Z.1.2.2.2.2
  have hS : va_S (AA g s.heap.size) s.heap s.heap [] := va_S.rf
  have hl : lv_has ls 2 [(0, .ref (g.1 108)), (1, .int v1)] := hl
  unfold F10_undo at hF
  refine lv_iload_n hx hb dX10_undo_0 rfl (lv_at hl 1 rfl) ?_
  obtain ⟨q7, hq7, hF⟩ := bd_ok hF
  refine xX10_isTwo Z hP hS hq7 wd_13_5 hl.1 (Nat.le_of_ble_eq_true rfl) ⟨Nat.le_of_ble_eq_true rfl, Nat.le_of_ble_eq_true rfl⟩ dX10_undo_1 (fun H locs hP hS => ?_)
  refine lv_if_ne (tgt := 10) hx hb dX10_undo_4 rfl (fun hc => ?_) (fun hc => ?_)
  · have hF := (if_neg hc).symm.trans hF
    refine lv_aload_n hx hb dX10_undo_10 rfl (lv_at hl 0 rfl) ?_
    refine gf10_6 Z hP wd_6_9 dX10_undo_11 ?_
    refine lv_iload_n hx hb dX10_undo_14 rfl (lv_at hl 1 rfl) ?_
    obtain ⟨hi8, hF⟩ := ck_ok hF
    refine rM_ld Z hP 2 6 (by decide +kernel) hi8 dX10_undo_15 ?_
    refine lv_if_ne (tgt := 22) hx hb dX10_undo_16 rfl (fun hc => ?_) (fun hc => ?_)
    · have hF := (if_neg hc).symm.trans hF
      refine lv_aload_n hx hb dX10_undo_22 rfl (lv_at hl 0 rfl) ?_
      refine gf10_6 Z hP wd_6_9 dX10_undo_23 ?_
      refine lv_iload_n hx hb dX10_undo_26 rfl (lv_at hl 1 rfl) ?_
      refine lv_dup2_11 hx hb dX10_undo_27 rfl rfl ?_
      obtain ⟨hi9, hF⟩ := ck_ok hF
      refine rM_ld Z hP 2 6 (by decide +kernel) hi9 dX10_undo_28 ?_
      refine lv_iconst (v := (1 : Int32)) hx hb dX10_undo_29 ic_1 ?_
      refine lv_isub hx hb dX10_undo_30 ?_
      obtain ⟨hi10, hF⟩ := ck_ok hF
      refine rM_st Z hP hS 2 6 (by decide +kernel) hi10 dX10_undo_31 (fun H locs hP hS => ?_)
      refine lv_aload_n hx hb dX10_undo_32 rfl (lv_at hl 0 rfl) ?_
      refine gf10_6 Z hP wd_6_9 dX10_undo_33 ?_
      refine lv_iload_n hx hb dX10_undo_36 rfl (lv_at hl 1 rfl) ?_
      obtain ⟨M11, eM11, hF⟩ := lt_ok hF
      have hP : va_P g.2.2.1 vwCl (wL g mc M11) H := by rw [eM11]; exact hP
      obtain ⟨hi12, hF⟩ := ck_ok hF
      refine rM_ld Z hP 2 6 (by decide +kernel) hi12 dX10_undo_37 ?_
      exact ret_IWM Z hr hlk hP hS hF dX10_undo_38
    · have hF := (if_pos hc).symm.trans hF
      refine lv_bipush (v := (-3 : Int32)) hx hb dX10_undo_19 bp_m3 ?_
      exact ret_IWM Z hr hlk hP hS hF dX10_undo_21
  · have hF := (if_pos hc).symm.trans hF
    refine lv_bipush (v := (-2 : Int32)) hx hb dX10_undo_7 bp_m2 ?_
    exact ret_IWM Z hr hlk hP hS hF dX10_undo_9
theorem xX10_undo {p : Program} {l : Launch} {e : Env} {R : Room} {s : State} {m : MethodId} {args : Array Value} {below : List Frame} {meth : Method} {c : Code} {H : Heap} {locs : List Loc} {Q : State → Prop} {cc : ByteArray} {nL : Nat} {own : String} {g : GG} {pc index : Nat} {ls : Array Slot} {rest : List Value} {mc mm : Mem} (Z : ZZ p s m args c cc nL own g) (hP : va_P g.2.2.1 vwCl (wL g mc mm) H) (hS : va_S (AA g s.heap.size) s.heap H locs) {v1 : Int32} {q : Int32 × Mem} (hq : F10_undo v1 mm = some q) (hlk : Cond.methodLink own index yX10_undo ∈ wsL_law) (hsz : ls.size = nL) (hro : (rest.map fun v => v.category).sum ≤ 8) (hR : 2 + 1 ≤ R.frames ∧ 8 + (2 + 11) + 45 ≤ R.locals) (hdg : decode cc pc = .ok (.invokevirtual index, 3)) (kk : ∀ (H : Heap) (locs : List Loc), va_P g.2.2.1 vwCl (wL g mc q.2) H → va_S (AA g s.heap.size) s.heap H locs → W p l e R s m args below meth c H locs 0 0 Q (F0 m (pc + 3) ls (.int q.1 :: rest))) : W p l e R s m args below meth c H locs 0 0 Q (F0 m pc ls (.int v1 :: .ref (g.1 108) :: rest)) :=
  x_VI Z hP hS (kX10_undo l g v1 mc mm q hq) (mO) (ci := 10) (by decide) rfl rfl mf_X10_undo mv_X10_undo hlk rfl rfl hsz hro hR hdg kk
theorem dX10_wellOf_0 : decode cX10_wellOf 0 = .ok (.iload_n 0, 1) := by decide +kernel
theorem dX10_wellOf_1 : decode cX10_wellOf 1 = .ok (.ifCond .ne 36, 3) := by decide +kernel
theorem dX10_wellOf_4 : decode cX10_wellOf 4 = .ok (.iload_n 1, 1) := by decide +kernel
theorem dX10_wellOf_5 : decode cX10_wellOf 5 = .ok (.bipush 103, 2) := by decide +kernel
theorem dX10_wellOf_7 : decode cX10_wellOf 7 = .ok (.if_icmp .ne 7, 3) := by decide +kernel
theorem dX10_wellOf_10 : decode cX10_wellOf 10 = .ok (.iconst 0, 1) := by decide +kernel
theorem dX10_wellOf_11 : decode cX10_wellOf 11 = .ok (.goto 25, 3) := by decide +kernel
theorem dX10_wellOf_14 : decode cX10_wellOf 14 = .ok (.iload_n 1, 1) := by decide +kernel
theorem dX10_wellOf_15 : decode cX10_wellOf 15 = .ok (.bipush 99, 2) := by decide +kernel
theorem dX10_wellOf_17 : decode cX10_wellOf 17 = .ok (.if_icmp .ne 7, 3) := by decide +kernel
theorem dX10_wellOf_20 : decode cX10_wellOf 20 = .ok (.iconst 1, 1) := by decide +kernel
theorem dX10_wellOf_21 : decode cX10_wellOf 21 = .ok (.goto 15, 3) := by decide +kernel
theorem dX10_wellOf_24 : decode cX10_wellOf 24 = .ok (.iload_n 1, 1) := by decide +kernel
theorem dX10_wellOf_25 : decode cX10_wellOf 25 = .ok (.bipush 115, 2) := by decide +kernel
theorem dX10_wellOf_27 : decode cX10_wellOf 27 = .ok (.if_icmp .ne 7, 3) := by decide +kernel
theorem dX10_wellOf_30 : decode cX10_wellOf 30 = .ok (.iconst 2, 1) := by decide +kernel
theorem dX10_wellOf_31 : decode cX10_wellOf 31 = .ok (.goto 5, 3) := by decide +kernel
theorem dX10_wellOf_34 : decode cX10_wellOf 34 = .ok (.bipush (-9), 2) := by decide +kernel
theorem dX10_wellOf_36 : decode cX10_wellOf 36 = .ok (.ireturn, 1) := by decide +kernel
theorem dX10_wellOf_37 : decode cX10_wellOf 37 = .ok (.iload_n 0, 1) := by decide +kernel
theorem dX10_wellOf_38 : decode cX10_wellOf 38 = .ok (.iconst 1, 1) := by decide +kernel
theorem dX10_wellOf_39 : decode cX10_wellOf 39 = .ok (.if_icmp .ne 29, 3) := by decide +kernel
theorem dX10_wellOf_42 : decode cX10_wellOf 42 = .ok (.iload_n 1, 1) := by decide +kernel
theorem dX10_wellOf_43 : decode cX10_wellOf 43 = .ok (.i2l, 1) := by decide +kernel
theorem dX10_wellOf_44 : decode cX10_wellOf 44 = .ok (.ldc2_w 116, 3) := by decide +kernel
theorem dX10_wellOf_47 : decode cX10_wellOf 47 = .ok (.ldc2_w 118, 3) := by decide +kernel
theorem dX10_wellOf_50 : decode cX10_wellOf 50 = .ok (.invokestatic 83, 3) := by decide +kernel
theorem dX10_wellOf_53 : decode cX10_wellOf 53 = .ok (.ifCond .eq 10, 3) := by decide +kernel
theorem dX10_wellOf_56 : decode cX10_wellOf 56 = .ok (.iload_n 1, 1) := by decide +kernel
theorem dX10_wellOf_57 : decode cX10_wellOf 57 = .ok (.bipush 48, 2) := by decide +kernel
theorem dX10_wellOf_59 : decode cX10_wellOf 59 = .ok (.isub, 1) := by decide +kernel
theorem dX10_wellOf_60 : decode cX10_wellOf 60 = .ok (.goto 20, 3) := by decide +kernel
theorem dX10_wellOf_63 : decode cX10_wellOf 63 = .ok (.bipush (-9), 2) := by decide +kernel
theorem dX10_wellOf_65 : decode cX10_wellOf 65 = .ok (.goto 15, 3) := by decide +kernel
theorem dX10_wellOf_68 : decode cX10_wellOf 68 = .ok (.iload_n 1, 1) := by decide +kernel
theorem dX10_wellOf_69 : decode cX10_wellOf 69 = .ok (.bipush 59, 2) := by decide +kernel
theorem dX10_wellOf_71 : decode cX10_wellOf 71 = .ok (.if_icmp .ne 7, 3) := by decide +kernel
theorem dX10_wellOf_74 : decode cX10_wellOf 74 = .ok (.iconst 0, 1) := by decide +kernel
theorem dX10_wellOf_75 : decode cX10_wellOf 75 = .ok (.goto 5, 3) := by decide +kernel
theorem dX10_wellOf_78 : decode cX10_wellOf 78 = .ok (.bipush (-9), 2) := by decide +kernel
theorem dX10_wellOf_80 : decode cX10_wellOf 80 = .ok (.ireturn, 1) := by decide +kernel
noncomputable def F10_wellOf (v0 : Int32) (v1 : Int32) : Option (Int32) :=
  (if v0 = (0 : Int32) then (if v1 = (103 : Int32) then some (0 : Int32) else (if v1 = (99 : Int32) then some (1 : Int32) else (if v1 = (115 : Int32) then some (2 : Int32) else some (-9 : Int32)))) else (if v0 = (1 : Int32) then ((F10_in v1.toInt64 (48 : Int64) (57 : Int64)).bind (fun q2 => (if q2 = (0 : Int32) then some (-9 : Int32) else some (v1 - (48 : Int32))))) else (if v1 = (59 : Int32) then some (0 : Int32) else some (-9 : Int32))))
set_option maxHeartbeats 4000000 in
set_option maxRecDepth 100000 in
theorem kX10_wellOf (l : Launch) (g : GG) (v0 : Int32) (v1 : Int32) (mc mm : Mem) (q : Int32) (hF : F10_wellOf v0 v1 = some q) : KI l yX10_wellOf cX10_wellOf 2 .int 1 25 g [.int v0, .int v1] mc mm q (mc, mm) := by
  intro sz
  refine x_start (Qc := fun z => QI g z q (mc, mm)) (by decide +kernel) (Nat.le_of_ble_eq_true rfl) ?_ sz
  intro p e s m args below meth c ls Z hr hlk hP hl
  have hx := Z.1.1
  have hb := Z.1.2.1
  have hown := Z.1.2.2.2.1
  have hts := Z.1.2.2.2.2
  have hS : va_S (AA g s.heap.size) s.heap s.heap [] := va_S.rf
  have hl : lv_has ls 2 [(0, .int v0), (1, .int v1)] := hl
  unfold F10_wellOf at hF
  refine lv_iload_n hx hb dX10_wellOf_0 rfl (lv_at hl 0 rfl) ?_
  refine lv_if_ne (tgt := 37) hx hb dX10_wellOf_1 rfl (fun hc => ?_) (fun hc => ?_)
  · have hF := (if_neg hc).symm.trans hF
    refine lv_iload_n hx hb dX10_wellOf_37 rfl (lv_at hl 0 rfl) ?_
    refine lv_iconst (v := (1 : Int32)) hx hb dX10_wellOf_38 ic_1 ?_
    refine lv_icmp_ne (tgt := 68) hx hb dX10_wellOf_39 rfl (fun hc => ?_) (fun hc => ?_)
    · have hF := (if_neg hc).symm.trans hF
      refine lv_iload_n hx hb dX10_wellOf_68 rfl (lv_at hl 1 rfl) ?_
      refine lv_bipush (v := (59 : Int32)) hx hb dX10_wellOf_69 bp_59 ?_
      refine lv_icmp_ne (tgt := 78) hx hb dX10_wellOf_71 rfl (fun hc => ?_) (fun hc => ?_)
      · have hF := (if_neg hc).symm.trans hF
        refine lv_bipush (v := (-9 : Int32)) hx hb dX10_wellOf_78 bp_m9 ?_
        exact ret_I Z hr hlk hP hS hF dX10_wellOf_80
      · have hF := (if_pos hc).symm.trans hF
        refine lv_iconst (v := (0 : Int32)) hx hb dX10_wellOf_74 ic_0 ?_
        refine lv_goto (tgt := 80) hx hb dX10_wellOf_75 rfl ?_
        exact ret_I Z hr hlk hP hS hF dX10_wellOf_80
    · have hF := (if_pos hc).symm.trans hF
      refine lv_iload_n hx hb dX10_wellOf_42 rfl (lv_at hl 1 rfl) ?_
      refine lv_i2l (v := v1.toInt64) hx hb dX10_wellOf_43 rfl ?_
      refine lv_ldc2 (v := (48 : Int64)) hx hb hown (hts _ wd_14_23) dX10_wellOf_44 ?_
      refine lv_ldc2 (v := (57 : Int64)) hx hb hown (hts _ wd_15_0) dX10_wellOf_47 ?_
      obtain ⟨q2, hq2, hF⟩ := bd_ok hF
      refine xX10_in Z hP hS hq2 wd_13_8 hl.1 (Nat.le_of_ble_eq_true rfl) ⟨Nat.le_of_ble_eq_true rfl, Nat.le_of_ble_eq_true rfl⟩ dX10_wellOf_50 (fun H locs hP hS => ?_)
      refine lv_if_eq (tgt := 63) hx hb dX10_wellOf_53 rfl (fun hc => ?_) (fun hc => ?_)
      · have hF := (if_pos hc).symm.trans hF
        refine lv_bipush (v := (-9 : Int32)) hx hb dX10_wellOf_63 bp_m9 ?_
        refine lv_goto (tgt := 80) hx hb dX10_wellOf_65 rfl ?_
        exact ret_I Z hr hlk hP hS hF dX10_wellOf_80
      · have hF := (if_neg hc).symm.trans hF
        refine lv_iload_n hx hb dX10_wellOf_56 rfl (lv_at hl 1 rfl) ?_
        refine lv_bipush (v := (48 : Int32)) hx hb dX10_wellOf_57 bp_48 ?_
        refine lv_isub hx hb dX10_wellOf_59 ?_
        refine lv_goto (tgt := 80) hx hb dX10_wellOf_60 rfl ?_
        exact ret_I Z hr hlk hP hS hF dX10_wellOf_80
  · have hF := (if_pos hc).symm.trans hF
    refine lv_iload_n hx hb dX10_wellOf_4 rfl (lv_at hl 1 rfl) ?_
    refine lv_bipush (v := (103 : Int32)) hx hb dX10_wellOf_5 bp_103 ?_
    refine lv_icmp_ne (tgt := 14) hx hb dX10_wellOf_7 rfl (fun hc => ?_) (fun hc => ?_)
    · have hF := (if_neg hc).symm.trans hF
      refine lv_iload_n hx hb dX10_wellOf_14 rfl (lv_at hl 1 rfl) ?_
      refine lv_bipush (v := (99 : Int32)) hx hb dX10_wellOf_15 bp_99 ?_
      refine lv_icmp_ne (tgt := 24) hx hb dX10_wellOf_17 rfl (fun hc => ?_) (fun hc => ?_)
      · have hF := (if_neg hc).symm.trans hF
        refine lv_iload_n hx hb dX10_wellOf_24 rfl (lv_at hl 1 rfl) ?_
        refine lv_bipush (v := (115 : Int32)) hx hb dX10_wellOf_25 bp_115 ?_
        refine lv_icmp_ne (tgt := 34) hx hb dX10_wellOf_27 rfl (fun hc => ?_) (fun hc => ?_)
        · have hF := (if_neg hc).symm.trans hF
          refine lv_bipush (v := (-9 : Int32)) hx hb dX10_wellOf_34 bp_m9 ?_
          exact ret_I Z hr hlk hP hS hF dX10_wellOf_36
        · have hF := (if_pos hc).symm.trans hF
          refine lv_iconst (v := (2 : Int32)) hx hb dX10_wellOf_30 ic_2 ?_
          refine lv_goto (tgt := 36) hx hb dX10_wellOf_31 rfl ?_
          exact ret_I Z hr hlk hP hS hF dX10_wellOf_36
      · have hF := (if_pos hc).symm.trans hF
        refine lv_iconst (v := (1 : Int32)) hx hb dX10_wellOf_20 ic_1 ?_
        refine lv_goto (tgt := 36) hx hb dX10_wellOf_21 rfl ?_
        exact ret_I Z hr hlk hP hS hF dX10_wellOf_36
    · have hF := (if_pos hc).symm.trans hF
      refine lv_iconst (v := (0 : Int32)) hx hb dX10_wellOf_10 ic_0 ?_
      refine lv_goto (tgt := 36) hx hb dX10_wellOf_11 rfl ?_
      exact ret_I Z hr hlk hP hS hF dX10_wellOf_36
theorem xX10_wellOf {p : Program} {l : Launch} {e : Env} {R : Room} {s : State} {m : MethodId} {args : Array Value} {below : List Frame} {meth : Method} {c : Code} {H : Heap} {locs : List Loc} {Q : State → Prop} {cc : ByteArray} {nL : Nat} {own : String} {g : GG} {pc index : Nat} {ls : Array Slot} {rest : List Value} {mc mm : Mem} (Z : ZZ p s m args c cc nL own g) (hP : va_P g.2.2.1 vwCl (wL g mc mm) H) (hS : va_S (AA g s.heap.size) s.heap H locs) {v0 : Int32} {v1 : Int32} {q : Int32} (hq : F10_wellOf v0 v1 = some q) (hlk : Cond.methodLink own index yX10_wellOf ∈ wsL_law) (hsz : ls.size = nL) (hro : (rest.map fun v => v.category).sum ≤ 8) (hR : 1 + 1 ≤ R.frames ∧ 8 + (2 + 11) + 25 ≤ R.locals) (hdg : decode cc pc = .ok (.invokestatic index, 3)) (kk : ∀ (H : Heap) (locs : List Loc), va_P g.2.2.1 vwCl (wL g mc mm) H → va_S (AA g s.heap.size) s.heap H locs → W p l e R s m args below meth c H locs 0 0 Q (F0 m (pc + 3) ls (.int q :: rest))) : W p l e R s m args below meth c H locs 0 0 Q (F0 m pc ls (.int v1 :: .int v0 :: rest)) :=
  x_SI Z hP hS (kX10_wellOf l g v0 v1 mc mm q hq) mf_X10_wellOf wd_14_21 hlk rfl rfl hsz hro hR hdg kk
theorem dX10_readsWells_0 : decode cX10_readsWells 0 = .ok (.aload_n 0, 1) := by decide +kernel
theorem dX10_readsWells_1 : decode cX10_readsWells 1 = .ok (.iconst 0, 1) := by decide +kernel
theorem dX10_readsWells_2 : decode cX10_readsWells 2 = .ok (.putfield 120, 3) := by decide +kernel
theorem dX10_readsWells_5 : decode cX10_readsWells 5 = .ok (.aload_n 0, 1) := by decide +kernel
theorem dX10_readsWells_6 : decode cX10_readsWells 6 = .ok (.getfield 25, 3) := by decide +kernel
theorem dX10_readsWells_9 : decode cX10_readsWells 9 = .ok (.iconst 0, 1) := by decide +kernel
theorem dX10_readsWells_10 : decode cX10_readsWells 10 = .ok (.iaload, 1) := by decide +kernel
theorem dX10_readsWells_11 : decode cX10_readsWells 11 = .ok (.istore_n 1, 1) := by decide +kernel
theorem dX10_readsWells_12 : decode cX10_readsWells 12 = .ok (.iconst 0, 1) := by decide +kernel
theorem dX10_readsWells_13 : decode cX10_readsWells 13 = .ok (.istore_n 2, 1) := by decide +kernel
theorem dX10_readsWells_14 : decode cX10_readsWells 14 = .ok (.iload_n 2, 1) := by decide +kernel
theorem dX10_readsWells_15 : decode cX10_readsWells 15 = .ok (.iload_n 1, 1) := by decide +kernel
theorem dX10_readsWells_16 : decode cX10_readsWells 16 = .ok (.if_icmp .ge 77, 3) := by decide +kernel
theorem dX10_readsWells_19 : decode cX10_readsWells 19 = .ok (.iload_n 2, 1) := by decide +kernel
theorem dX10_readsWells_20 : decode cX10_readsWells 20 = .ok (.iconst 3, 1) := by decide +kernel
theorem dX10_readsWells_21 : decode cX10_readsWells 21 = .ok (.irem, 1) := by decide +kernel
theorem dX10_readsWells_22 : decode cX10_readsWells 22 = .ok (.istore_n 3, 1) := by decide +kernel
theorem dX10_readsWells_23 : decode cX10_readsWells 23 = .ok (.iload_n 3, 1) := by decide +kernel
theorem dX10_readsWells_24 : decode cX10_readsWells 24 = .ok (.aload_n 0, 1) := by decide +kernel
theorem dX10_readsWells_25 : decode cX10_readsWells 25 = .ok (.getfield 22, 3) := by decide +kernel
theorem dX10_readsWells_28 : decode cX10_readsWells 28 = .ok (.iload_n 2, 1) := by decide +kernel
theorem dX10_readsWells_29 : decode cX10_readsWells 29 = .ok (.iaload, 1) := by decide +kernel
theorem dX10_readsWells_30 : decode cX10_readsWells 30 = .ok (.invokestatic 123, 3) := by decide +kernel
theorem dX10_readsWells_33 : decode cX10_readsWells 33 = .ok (.istore 4, 2) := by decide +kernel
theorem dX10_readsWells_35 : decode cX10_readsWells 35 = .ok (.iload 4, 2) := by decide +kernel
theorem dX10_readsWells_37 : decode cX10_readsWells 37 = .ok (.bipush (-9), 2) := by decide +kernel
theorem dX10_readsWells_39 : decode cX10_readsWells 39 = .ok (.if_icmp .ne 10, 3) := by decide +kernel
theorem dX10_readsWells_42 : decode cX10_readsWells 42 = .ok (.aload_n 0, 1) := by decide +kernel
theorem dX10_readsWells_43 : decode cX10_readsWells 43 = .ok (.iconst 0, 1) := by decide +kernel
theorem dX10_readsWells_44 : decode cX10_readsWells 44 = .ok (.putfield 120, 3) := by decide +kernel
theorem dX10_readsWells_47 : decode cX10_readsWells 47 = .ok (.iload_n 2, 1) := by decide +kernel
theorem dX10_readsWells_48 : decode cX10_readsWells 48 = .ok (.ireturn, 1) := by decide +kernel
theorem dX10_readsWells_49 : decode cX10_readsWells 49 = .ok (.iload_n 3, 1) := by decide +kernel
theorem dX10_readsWells_50 : decode cX10_readsWells 50 = .ok (.iconst 2, 1) := by decide +kernel
theorem dX10_readsWells_51 : decode cX10_readsWells 51 = .ok (.if_icmp .ge 17, 3) := by decide +kernel
theorem dX10_readsWells_54 : decode cX10_readsWells 54 = .ok (.aload_n 0, 1) := by decide +kernel
theorem dX10_readsWells_55 : decode cX10_readsWells 55 = .ok (.getfield 28, 3) := by decide +kernel
theorem dX10_readsWells_58 : decode cX10_readsWells 58 = .ok (.iconst 2, 1) := by decide +kernel
theorem dX10_readsWells_59 : decode cX10_readsWells 59 = .ok (.iload_n 2, 1) := by decide +kernel
theorem dX10_readsWells_60 : decode cX10_readsWells 60 = .ok (.iconst 3, 1) := by decide +kernel
theorem dX10_readsWells_61 : decode cX10_readsWells 61 = .ok (.idiv, 1) := by decide +kernel
theorem dX10_readsWells_62 : decode cX10_readsWells 62 = .ok (.imul, 1) := by decide +kernel
theorem dX10_readsWells_63 : decode cX10_readsWells 63 = .ok (.iload_n 3, 1) := by decide +kernel
theorem dX10_readsWells_64 : decode cX10_readsWells 64 = .ok (.iadd, 1) := by decide +kernel
theorem dX10_readsWells_65 : decode cX10_readsWells 65 = .ok (.iload 4, 2) := by decide +kernel
theorem dX10_readsWells_67 : decode cX10_readsWells 67 = .ok (.iastore, 1) := by decide +kernel
theorem dX10_readsWells_68 : decode cX10_readsWells 68 = .ok (.aload_n 0, 1) := by decide +kernel
theorem dX10_readsWells_69 : decode cX10_readsWells 69 = .ok (.dup, 1) := by decide +kernel
theorem dX10_readsWells_70 : decode cX10_readsWells 70 = .ok (.getfield 120, 3) := by decide +kernel
theorem dX10_readsWells_73 : decode cX10_readsWells 73 = .ok (.iload_n 3, 1) := by decide +kernel
theorem dX10_readsWells_74 : decode cX10_readsWells 74 = .ok (.iconst 1, 1) := by decide +kernel
theorem dX10_readsWells_75 : decode cX10_readsWells 75 = .ok (.if_icmp .ne 7, 3) := by decide +kernel
theorem dX10_readsWells_78 : decode cX10_readsWells 78 = .ok (.iconst 1, 1) := by decide +kernel
theorem dX10_readsWells_79 : decode cX10_readsWells 79 = .ok (.goto 4, 3) := by decide +kernel
theorem dX10_readsWells_82 : decode cX10_readsWells 82 = .ok (.iconst 0, 1) := by decide +kernel
theorem dX10_readsWells_83 : decode cX10_readsWells 83 = .ok (.iadd, 1) := by decide +kernel
theorem dX10_readsWells_84 : decode cX10_readsWells 84 = .ok (.putfield 120, 3) := by decide +kernel
theorem dX10_readsWells_87 : decode cX10_readsWells 87 = .ok (.iinc 2 1, 3) := by decide +kernel
theorem dX10_readsWells_90 : decode cX10_readsWells 90 = .ok (.goto (-76), 3) := by decide +kernel
theorem dX10_readsWells_93 : decode cX10_readsWells 93 = .ok (.iload_n 1, 1) := by decide +kernel
theorem dX10_readsWells_94 : decode cX10_readsWells 94 = .ok (.ifCond .le 17, 3) := by decide +kernel
theorem dX10_readsWells_97 : decode cX10_readsWells 97 = .ok (.iload_n 1, 1) := by decide +kernel
theorem dX10_readsWells_98 : decode cX10_readsWells 98 = .ok (.iconst 3, 1) := by decide +kernel
theorem dX10_readsWells_99 : decode cX10_readsWells 99 = .ok (.irem, 1) := by decide +kernel
theorem dX10_readsWells_100 : decode cX10_readsWells 100 = .ok (.iconst 2, 1) := by decide +kernel
theorem dX10_readsWells_101 : decode cX10_readsWells 101 = .ok (.if_icmp .eq 10, 3) := by decide +kernel
theorem dX10_readsWells_104 : decode cX10_readsWells 104 = .ok (.aload_n 0, 1) := by decide +kernel
theorem dX10_readsWells_105 : decode cX10_readsWells 105 = .ok (.iconst 0, 1) := by decide +kernel
theorem dX10_readsWells_106 : decode cX10_readsWells 106 = .ok (.putfield 120, 3) := by decide +kernel
theorem dX10_readsWells_109 : decode cX10_readsWells 109 = .ok (.iload_n 1, 1) := by decide +kernel
theorem dX10_readsWells_110 : decode cX10_readsWells 110 = .ok (.ireturn, 1) := by decide +kernel
theorem dX10_readsWells_111 : decode cX10_readsWells 111 = .ok (.iconst (-1), 1) := by decide +kernel
theorem dX10_readsWells_112 : decode cX10_readsWells 112 = .ok (.ireturn, 1) := by decide +kernel
noncomputable def F10_readsWells_b93 (a1 : Int32) (M : Mem) : Option (Int32 × Mem) :=
  (if a1 ≤ (0 : Int32) then some ((-1 : Int32), M) else (if (jrem a1 (3 : Int32)) = (2 : Int32) then some ((-1 : Int32), M) else some (a1, (mset M 0 7 (0 : Int32)))))
noncomputable def F10_readsWells_b42 (a2 : Int32) (M : Mem) : Option (Int32 × Mem) :=
  some (a2, (mset M 0 7 (0 : Int32)))
noncomputable def F10_readsWells_b83 (kh : Int32 → Int32 → Mem → Option (Int32 × Mem)) (kx42 : Int32 → Mem → Option (Int32 × Mem)) (kx93 : Int32 → Mem → Option (Int32 × Mem)) (a1 : Int32) (a2 : Int32) (s1 : Int32) (s2 : Int32) (M : Mem) : Option (Int32 × Mem) :=
  kh a1 (a2 + (1 : Int32)) (mset M 0 7 (s1 + s2))
noncomputable def F10_readsWells_b68 (kh : Int32 → Int32 → Mem → Option (Int32 × Mem)) (kx42 : Int32 → Mem → Option (Int32 × Mem)) (kx93 : Int32 → Mem → Option (Int32 × Mem)) (a1 : Int32) (a2 : Int32) (a3 : Int32) (M : Mem) : Option (Int32 × Mem) :=
  (if a3 = (1 : Int32) then (F10_readsWells_b83 kh kx42 kx93) a1 a2 (M 0 7) (1 : Int32) M else (F10_readsWells_b83 kh kx42 kx93) a1 a2 (M 0 7) (0 : Int32) M)
noncomputable def F10_readsWells_p14 (kh : Int32 → Int32 → Mem → Option (Int32 × Mem)) (kx42 : Int32 → Mem → Option (Int32 × Mem)) (kx93 : Int32 → Mem → Option (Int32 × Mem)) (a1 : Int32) (a2 : Int32) (M : Mem) : Option (Int32 × Mem) :=
  (if a1 ≤ a2 then kx93 a1 M else (ck a2 128 ((F10_wellOf (jrem a2 (3 : Int32)) (M 5 a2.toNatClampNeg)).bind (fun q6 => (if q6 = (-9 : Int32) then kx42 a2 M else (if (2 : Int32) ≤ (jrem a2 (3 : Int32)) then (F10_readsWells_b68 kh kx42 kx93) a1 a2 (jrem a2 (3 : Int32)) M else (ck (((2 : Int32) * (a2 / (3 : Int32))) + (jrem a2 (3 : Int32))) 16 ((F10_readsWells_b68 kh kx42 kx93) a1 a2 (jrem a2 (3 : Int32)) (mset M 7 (((2 : Int32) * (a2 / (3 : Int32))) + (jrem a2 (3 : Int32))).toNatClampNeg q6)))))))))
noncomputable def F10_readsWells_h14 (kx42 : Int32 → Mem → Option (Int32 × Mem)) (kx93 : Int32 → Mem → Option (Int32 × Mem)) : Nat → Int32 → Int32 → Mem → Option (Int32 × Mem)
  | 0, _, _, _ => none
  | n + 1, a1, a2, M => F10_readsWells_p14 (F10_readsWells_h14 kx42 kx93 n) kx42 kx93 a1 a2 M
noncomputable def F10_readsWells (mm : Mem) : Option (Int32 × Mem) :=
  (lt (mset mm 0 7 (0 : Int32)) (fun M8 => ((F10_readsWells_h14 F10_readsWells_b42 F10_readsWells_b93 FU) (M8 6 (0 : Int32).toNatClampNeg) (0 : Int32) M8)))
set_option maxHeartbeats 4000000 in
set_option maxRecDepth 100000 in
theorem kX10_readsWells (l : Launch) (g : GG) (mc mm : Mem) (q : Int32 × Mem) (hF : F10_readsWells mm = some q) : KI l yX10_readsWells cX10_readsWells 5 .int 2 46 g [.ref (g.1 108)] mc mm q.1 (mc, q.2) := by
  intro sz
  refine x_start (Qc := fun z => QI g z q.1 (mc, q.2)) (by decide +kernel) (Nat.le_of_ble_eq_true rfl) ?_ sz
  intro p e s m args below meth c ls Z hr hlk hP hl
  have hx := Z.1.1
  have hb := Z.1.2.1
  have hown := Z.1.2.2.2.1
  have hts := Z.1.2.2.2.2
  have hS : va_S (AA g s.heap.size) s.heap s.heap [] := va_S.rf
  have hl : lv_has ls 5 [(0, .ref (g.1 108))] := hl
  unfold F10_readsWells at hF
  have hb93 : ∀ (a1 : Int32) (M : Mem), F10_readsWells_b93 a1 M = some q → ∀ (H : Heap) (locs : List Loc) (ls : Array Slot), lv_has ls 5 [(0, .ref (g.1 108)), (1, .int a1)] → va_P g.2.2.1 vwCl (wL g mc M) H → va_S (AA g s.heap.size) s.heap H locs → W p l e { frames := 2, cells := 0, slots := 0, locals := 46 } s m args below meth c H locs 0 0 (MQ below (QI g s.heap.size q.1 (mc, q.2)) args s 0 0 (AA g s.heap.size)) (F0 m 93 ls []) := by
    intro a1 M hF H locs ls hl hP hS
    unfold F10_readsWells_b93 at hF
    refine lv_iload_n hx hb dX10_readsWells_93 rfl (lv_at hl 1 rfl) ?_
    refine lv_if_le (tgt := 111) hx hb dX10_readsWells_94 rfl (fun hc => ?_) (fun hc => ?_)
    · have hF := (if_pos hc).symm.trans hF
      refine lv_iconst (v := (-1 : Int32)) hx hb dX10_readsWells_111 ic_m1 ?_
      exact ret_IWM Z hr hlk hP hS hF dX10_readsWells_112
    · have hF := (if_neg hc).symm.trans hF
      refine lv_iload_n hx hb dX10_readsWells_97 rfl (lv_at hl 1 rfl) ?_
      refine lv_iconst (v := (3 : Int32)) hx hb dX10_readsWells_98 ic_3 ?_
      refine lv_irem hx hb dX10_readsWells_99 (by decide) ?_
      refine lv_iconst (v := (2 : Int32)) hx hb dX10_readsWells_100 ic_2 ?_
      refine lv_icmp_eq (tgt := 111) hx hb dX10_readsWells_101 rfl (fun hc => ?_) (fun hc => ?_)
      · have hF := (if_pos hc).symm.trans hF
        refine lv_iconst (v := (-1 : Int32)) hx hb dX10_readsWells_111 ic_m1 ?_
        exact ret_IWM Z hr hlk hP hS hF dX10_readsWells_112
      · have hF := (if_neg hc).symm.trans hF
        refine lv_aload_n hx hb dX10_readsWells_104 rfl (lv_at hl 0 rfl) ?_
        refine lv_iconst (v := (0 : Int32)) hx hb dX10_readsWells_105 ic_0 ?_
        refine pf10_7 Z hP hS wd_14_19 dX10_readsWells_106 (fun H locs hP hS => ?_)
        refine lv_iload_n hx hb dX10_readsWells_109 rfl (lv_at hl 1 rfl) ?_
        exact ret_IWM Z hr hlk hP hS hF dX10_readsWells_110
  have hb42 : ∀ (a2 : Int32) (M : Mem), F10_readsWells_b42 a2 M = some q → ∀ (H : Heap) (locs : List Loc) (ls : Array Slot), lv_has ls 5 [(0, .ref (g.1 108)), (2, .int a2)] → va_P g.2.2.1 vwCl (wL g mc M) H → va_S (AA g s.heap.size) s.heap H locs → W p l e { frames := 2, cells := 0, slots := 0, locals := 46 } s m args below meth c H locs 0 0 (MQ below (QI g s.heap.size q.1 (mc, q.2)) args s 0 0 (AA g s.heap.size)) (F0 m 42 ls []) := by
    intro a2 M hF H locs ls hl hP hS
    unfold F10_readsWells_b42 at hF
    refine lv_aload_n hx hb dX10_readsWells_42 rfl (lv_at hl 0 rfl) ?_
    refine lv_iconst (v := (0 : Int32)) hx hb dX10_readsWells_43 ic_0 ?_
    refine pf10_7 Z hP hS wd_14_19 dX10_readsWells_44 (fun H locs hP hS => ?_)
    refine lv_iload_n hx hb dX10_readsWells_47 rfl (lv_at hl 1 rfl) ?_
    exact ret_IWM Z hr hlk hP hS hF dX10_readsWells_48
  have hL14 : ∀ (kx42 : Int32 → Mem → Option (Int32 × Mem)) (kx93 : Int32 → Mem → Option (Int32 × Mem)), (∀ (a2 : Int32) (M : Mem), kx42 a2 M = some q → ∀ (H : Heap) (locs : List Loc) (ls : Array Slot), lv_has ls 5 [(0, .ref (g.1 108)), (2, .int a2)] → va_P g.2.2.1 vwCl (wL g mc M) H → va_S (AA g s.heap.size) s.heap H locs → W p l e { frames := 2, cells := 0, slots := 0, locals := 46 } s m args below meth c H locs 0 0 (MQ below (QI g s.heap.size q.1 (mc, q.2)) args s 0 0 (AA g s.heap.size)) (F0 m 42 ls [])) → (∀ (a1 : Int32) (M : Mem), kx93 a1 M = some q → ∀ (H : Heap) (locs : List Loc) (ls : Array Slot), lv_has ls 5 [(0, .ref (g.1 108)), (1, .int a1)] → va_P g.2.2.1 vwCl (wL g mc M) H → va_S (AA g s.heap.size) s.heap H locs → W p l e { frames := 2, cells := 0, slots := 0, locals := 46 } s m args below meth c H locs 0 0 (MQ below (QI g s.heap.size q.1 (mc, q.2)) args s 0 0 (AA g s.heap.size)) (F0 m 93 ls [])) → ∀ n : Nat, ∀ (a1 : Int32) (a2 : Int32) (M : Mem), F10_readsWells_h14 kx42 kx93 n a1 a2 M = some q → ∀ (H : Heap) (locs : List Loc) (ls : Array Slot), lv_has ls 5 [(0, .ref (g.1 108)), (1, .int a1), (2, .int a2)] → va_P g.2.2.1 vwCl (wL g mc M) H → va_S (AA g s.heap.size) s.heap H locs → W p l e { frames := 2, cells := 0, slots := 0, locals := 46 } s m args below meth c H locs 0 0 (MQ below (QI g s.heap.size q.1 (mc, q.2)) args s 0 0 (AA g s.heap.size)) (F0 m 14 ls []) := by
    intro kx42 kx93 hx42 hx93 n
    induction n with
    | zero => intro a1 a2 M hF H locs ls hl hP hS; exact absurd hF (fun z => nomatch (show (none : Option _) = some q from z))
    | succ n ih =>
      generalize hkh : F10_readsWells_h14 kx42 kx93 n = kh at ih
      have hb83 : ∀ (a1 : Int32) (a2 : Int32) (s1 : Int32) (s2 : Int32) (M : Mem), F10_readsWells_b83 kh kx42 kx93 a1 a2 s1 s2 M = some q → ∀ (H : Heap) (locs : List Loc) (ls : Array Slot), lv_has ls 5 [(0, .ref (g.1 108)), (1, .int a1), (2, .int a2)] → va_P g.2.2.1 vwCl (wL g mc M) H → va_S (AA g s.heap.size) s.heap H locs → W p l e { frames := 2, cells := 0, slots := 0, locals := 46 } s m args below meth c H locs 0 0 (MQ below (QI g s.heap.size q.1 (mc, q.2)) args s 0 0 (AA g s.heap.size)) (F0 m 83 ls [.int s2, .int s1, .ref (g.1 108)]) := by
        intro a1 a2 s1 s2 M hF H locs ls hl hP hS
        unfold F10_readsWells_b83 at hF
        refine lv_iadd hx hb dX10_readsWells_83 ?_
        refine pf10_7 Z hP hS wd_14_19 dX10_readsWells_84 (fun H locs hP hS => ?_)
        refine lv_iinc (lv' := [(2, .int (a2 + (1 : Int32))), (0, .ref (g.1 108)), (1, .int a1)]) (v := (a2 + (1 : Int32))) hx hb dX10_readsWells_87 hl (k := 2) rfl (io_1 _) (Nat.le_of_ble_eq_true rfl) rfl (fun ls hl => ?_)
        refine lv_goto (tgt := 14) hx hb dX10_readsWells_90 rfl ?_
        exact ih _ _ _ hF _ _ _ (lv_sub hl [1, 2, 0] rfl) hP hS
      have hb68 : ∀ (a1 : Int32) (a2 : Int32) (a3 : Int32) (M : Mem), F10_readsWells_b68 kh kx42 kx93 a1 a2 a3 M = some q → ∀ (H : Heap) (locs : List Loc) (ls : Array Slot), lv_has ls 5 [(0, .ref (g.1 108)), (1, .int a1), (2, .int a2), (3, .int a3)] → va_P g.2.2.1 vwCl (wL g mc M) H → va_S (AA g s.heap.size) s.heap H locs → W p l e { frames := 2, cells := 0, slots := 0, locals := 46 } s m args below meth c H locs 0 0 (MQ below (QI g s.heap.size q.1 (mc, q.2)) args s 0 0 (AA g s.heap.size)) (F0 m 68 ls []) := by
        intro a1 a2 a3 M hF H locs ls hl hP hS
        unfold F10_readsWells_b68 at hF
        refine lv_aload_n hx hb dX10_readsWells_68 rfl (lv_at hl 0 rfl) ?_
        refine lv_dup hx hb dX10_readsWells_69 rfl ?_
        refine gf10_7 Z hP wd_14_19 dX10_readsWells_70 ?_
        refine lv_iload_n hx hb dX10_readsWells_73 rfl (lv_at hl 3 rfl) ?_
        refine lv_iconst (v := (1 : Int32)) hx hb dX10_readsWells_74 ic_1 ?_
        refine lv_icmp_ne (tgt := 82) hx hb dX10_readsWells_75 rfl (fun hc => ?_) (fun hc => ?_)
        · have hF := (if_neg hc).symm.trans hF
          refine lv_iconst (v := (0 : Int32)) hx hb dX10_readsWells_82 ic_0 ?_
          exact hb83 _ _ _ _ _ hF _ _ _ (lv_sub hl [0, 1, 2] rfl) hP hS
        · have hF := (if_pos hc).symm.trans hF
          refine lv_iconst (v := (1 : Int32)) hx hb dX10_readsWells_78 ic_1 ?_
          refine lv_goto (tgt := 83) hx hb dX10_readsWells_79 rfl ?_
          exact hb83 _ _ _ _ _ hF _ _ _ (lv_sub hl [0, 1, 2] rfl) hP hS
      intro a1 a2 M hF H locs ls hl hP hS
      have hF : F10_readsWells_p14 (F10_readsWells_h14 kx42 kx93 n) kx42 kx93 a1 a2 M = some q := hF
      rw [hkh] at hF
      unfold F10_readsWells_p14 at hF
      refine lv_iload_n hx hb dX10_readsWells_14 rfl (lv_at hl 2 rfl) ?_
      refine lv_iload_n hx hb dX10_readsWells_15 rfl (lv_at hl 1 rfl) ?_
      refine lv_icmp_ge (tgt := 93) hx hb dX10_readsWells_16 rfl (fun hc => ?_) (fun hc => ?_)
      · have hF := (if_pos hc).symm.trans hF
        exact hx93 _ _ hF _ _ _ (lv_sub hl [0, 1] rfl) hP hS
      · have hF := (if_neg hc).symm.trans hF
        refine lv_iload_n hx hb dX10_readsWells_19 rfl (lv_at hl 2 rfl) ?_
        refine lv_iconst (v := (3 : Int32)) hx hb dX10_readsWells_20 ic_3 ?_
        refine lv_irem hx hb dX10_readsWells_21 (by decide) ?_
        refine lv_istore_n (lv' := [(3, .int (jrem a2 (3 : Int32))), (0, .ref (g.1 108)), (1, .int a1), (2, .int a2)]) hx hb dX10_readsWells_22 rfl hl (Nat.le_of_ble_eq_true rfl) rfl (fun ls hl => ?_)
        refine lv_iload_n hx hb dX10_readsWells_23 rfl (lv_at hl 0 rfl) ?_
        refine lv_aload_n hx hb dX10_readsWells_24 rfl (lv_at hl 1 rfl) ?_
        refine gf10_5 Z hP wd_6_8 dX10_readsWells_25 ?_
        refine lv_iload_n hx hb dX10_readsWells_28 rfl (lv_at hl 3 rfl) ?_
        obtain ⟨hi5, hF⟩ := ck_ok hF
        refine rM_ld Z hP 128 5 (by decide +kernel) hi5 dX10_readsWells_29 ?_
        obtain ⟨q6, hq6, hF⟩ := bd_ok hF
        refine xX10_wellOf Z hP hS hq6 wd_14_20 hl.1 (Nat.le_of_ble_eq_true rfl) ⟨Nat.le_of_ble_eq_true rfl, Nat.le_of_ble_eq_true rfl⟩ dX10_readsWells_30 (fun H locs hP hS => ?_)
        refine lv_istore (lv' := [(4, .int q6), (3, .int (jrem a2 (3 : Int32))), (0, .ref (g.1 108)), (1, .int a1), (2, .int a2)]) hx hb dX10_readsWells_33 hl (Nat.le_of_ble_eq_true rfl) rfl (fun ls hl => ?_)
        refine lv_iload hx hb dX10_readsWells_35 (lv_at hl 0 rfl) ?_
        refine lv_bipush (v := (-9 : Int32)) hx hb dX10_readsWells_37 bp_m9 ?_
        refine lv_icmp_ne (tgt := 49) hx hb dX10_readsWells_39 rfl (fun hc => ?_) (fun hc => ?_)
        · have hF := (if_neg hc).symm.trans hF
          refine lv_iload_n hx hb dX10_readsWells_49 rfl (lv_at hl 1 rfl) ?_
          refine lv_iconst (v := (2 : Int32)) hx hb dX10_readsWells_50 ic_2 ?_
          refine lv_icmp_ge (tgt := 68) hx hb dX10_readsWells_51 rfl (fun hc => ?_) (fun hc => ?_)
          · have hF := (if_pos hc).symm.trans hF
            exact hb68 _ _ _ _ hF _ _ _ (lv_sub hl [2, 3, 4, 1] rfl) hP hS
          · have hF := (if_neg hc).symm.trans hF
            refine lv_aload_n hx hb dX10_readsWells_54 rfl (lv_at hl 2 rfl) ?_
            refine gf10_8 Z hP wd_6_10 dX10_readsWells_55 ?_
            refine lv_iconst (v := (2 : Int32)) hx hb dX10_readsWells_58 ic_2 ?_
            refine lv_iload_n hx hb dX10_readsWells_59 rfl (lv_at hl 4 rfl) ?_
            refine lv_iconst (v := (3 : Int32)) hx hb dX10_readsWells_60 ic_3 ?_
            refine lv_idiv hx hb dX10_readsWells_61 (by decide) ?_
            refine lv_imul hx hb dX10_readsWells_62 ?_
            refine lv_iload_n hx hb dX10_readsWells_63 rfl (lv_at hl 1 rfl) ?_
            refine lv_iadd hx hb dX10_readsWells_64 ?_
            refine lv_iload hx hb dX10_readsWells_65 (lv_at hl 0 rfl) ?_
            obtain ⟨hi7, hF⟩ := ck_ok hF
            refine rM_st Z hP hS 16 7 (by decide +kernel) hi7 dX10_readsWells_67 (fun H locs hP hS => ?_)
            exact hb68 _ _ _ _ hF _ _ _ (lv_sub hl [2, 3, 4, 1] rfl) hP hS
        · have hF := (if_pos hc).symm.trans hF
          exact hx42 _ _ hF _ _ _ (lv_sub hl [2, 4] rfl) hP hS
  refine lv_aload_n hx hb dX10_readsWells_0 rfl (lv_at hl 0 rfl) ?_
  refine lv_iconst (v := (0 : Int32)) hx hb dX10_readsWells_1 ic_0 ?_
  refine pf10_7 Z hP hS wd_14_19 dX10_readsWells_2 (fun H locs hP hS => ?_)
  refine lv_aload_n hx hb dX10_readsWells_5 rfl (lv_at hl 0 rfl) ?_
  refine gf10_6 Z hP wd_6_9 dX10_readsWells_6 ?_
  refine lv_iconst (v := (0 : Int32)) hx hb dX10_readsWells_9 ic_0 ?_
  obtain ⟨M8, eM8, hF⟩ := lt_ok hF
  have hP : va_P g.2.2.1 vwCl (wL g mc M8) H := by rw [eM8]; exact hP
  refine rM_ld Z hP 2 6 (by decide +kernel) (inl (by decide)) dX10_readsWells_10 ?_
  refine lv_istore_n (lv' := [(1, .int (M8 6 (0 : Int32).toNatClampNeg)), (0, .ref (g.1 108))]) hx hb dX10_readsWells_11 rfl hl (Nat.le_of_ble_eq_true rfl) rfl (fun ls hl => ?_)
  refine lv_iconst (v := (0 : Int32)) hx hb dX10_readsWells_12 ic_0 ?_
  refine lv_istore_n (lv' := [(2, .int (0 : Int32)), (1, .int (M8 6 (0 : Int32).toNatClampNeg)), (0, .ref (g.1 108))]) hx hb dX10_readsWells_13 rfl hl (Nat.le_of_ble_eq_true rfl) rfl (fun ls hl => ?_)
  exact (hL14 _ _ hb42 hb93 FU) _ _ _ hF _ _ _ (lv_sub hl [2, 1, 0] rfl) hP hS
theorem xX10_readsWells {p : Program} {l : Launch} {e : Env} {R : Room} {s : State} {m : MethodId} {args : Array Value} {below : List Frame} {meth : Method} {c : Code} {H : Heap} {locs : List Loc} {Q : State → Prop} {cc : ByteArray} {nL : Nat} {own : String} {g : GG} {pc index : Nat} {ls : Array Slot} {rest : List Value} {mc mm : Mem} (Z : ZZ p s m args c cc nL own g) (hP : va_P g.2.2.1 vwCl (wL g mc mm) H) (hS : va_S (AA g s.heap.size) s.heap H locs) {q : Int32 × Mem} (hq : F10_readsWells mm = some q) (hlk : Cond.methodLink own index yX10_readsWells ∈ wsL_law) (hsz : ls.size = nL) (hro : (rest.map fun v => v.category).sum ≤ 8) (hR : 2 + 1 ≤ R.frames ∧ 8 + (5 + 11) + 46 ≤ R.locals) (hdg : decode cc pc = .ok (.invokevirtual index, 3)) (kk : ∀ (H : Heap) (locs : List Loc), va_P g.2.2.1 vwCl (wL g mc q.2) H → va_S (AA g s.heap.size) s.heap H locs → W p l e R s m args below meth c H locs 0 0 Q (F0 m (pc + 3) ls (.int q.1 :: rest))) : W p l e R s m args below meth c H locs 0 0 Q (F0 m pc ls (.ref (g.1 108) :: rest)) :=
  x_VI Z hP hS (kX10_readsWells l g mc mm q hq) (mO) (ci := 10) (by decide) rfl rfl mf_X10_readsWells mv_X10_readsWells hlk rfl rfl hsz hro hR hdg kk
theorem dX10_sayingOf_0 : decode cX10_sayingOf 0 = .ok (.iload_n 0, 1) := by decide +kernel
theorem dX10_sayingOf_1 : decode cX10_sayingOf 1 = .ok (.tableswitch 98 0 2 #[27, 51, 75], 27) := by decide +kernel
theorem dX10_sayingOf_28 : decode cX10_sayingOf 28 = .ok (.iload_n 1, 1) := by decide +kernel
theorem dX10_sayingOf_29 : decode cX10_sayingOf 29 = .ok (.i2l, 1) := by decide +kernel
theorem dX10_sayingOf_30 : decode cX10_sayingOf 30 = .ok (.ldc2_w 126, 3) := by decide +kernel
theorem dX10_sayingOf_33 : decode cX10_sayingOf 33 = .ok (.ldc2_w 128, 3) := by decide +kernel
theorem dX10_sayingOf_36 : decode cX10_sayingOf 36 = .ok (.invokestatic 83, 3) := by decide +kernel
theorem dX10_sayingOf_39 : decode cX10_sayingOf 39 = .ok (.ifCond .eq 10, 3) := by decide +kernel
theorem dX10_sayingOf_42 : decode cX10_sayingOf 42 = .ok (.iload_n 1, 1) := by decide +kernel
theorem dX10_sayingOf_43 : decode cX10_sayingOf 43 = .ok (.bipush 97, 2) := by decide +kernel
theorem dX10_sayingOf_45 : decode cX10_sayingOf 45 = .ok (.isub, 1) := by decide +kernel
theorem dX10_sayingOf_46 : decode cX10_sayingOf 46 = .ok (.goto 5, 3) := by decide +kernel
theorem dX10_sayingOf_49 : decode cX10_sayingOf 49 = .ok (.bipush (-9), 2) := by decide +kernel
theorem dX10_sayingOf_51 : decode cX10_sayingOf 51 = .ok (.ireturn, 1) := by decide +kernel
theorem dX10_sayingOf_52 : decode cX10_sayingOf 52 = .ok (.iload_n 1, 1) := by decide +kernel
theorem dX10_sayingOf_53 : decode cX10_sayingOf 53 = .ok (.i2l, 1) := by decide +kernel
theorem dX10_sayingOf_54 : decode cX10_sayingOf 54 = .ok (.ldc2_w 116, 3) := by decide +kernel
theorem dX10_sayingOf_57 : decode cX10_sayingOf 57 = .ok (.ldc2_w 130, 3) := by decide +kernel
theorem dX10_sayingOf_60 : decode cX10_sayingOf 60 = .ok (.invokestatic 83, 3) := by decide +kernel
theorem dX10_sayingOf_63 : decode cX10_sayingOf 63 = .ok (.ifCond .eq 10, 3) := by decide +kernel
theorem dX10_sayingOf_66 : decode cX10_sayingOf 66 = .ok (.iload_n 1, 1) := by decide +kernel
theorem dX10_sayingOf_67 : decode cX10_sayingOf 67 = .ok (.bipush 48, 2) := by decide +kernel
theorem dX10_sayingOf_69 : decode cX10_sayingOf 69 = .ok (.isub, 1) := by decide +kernel
theorem dX10_sayingOf_70 : decode cX10_sayingOf 70 = .ok (.goto 5, 3) := by decide +kernel
theorem dX10_sayingOf_73 : decode cX10_sayingOf 73 = .ok (.bipush (-9), 2) := by decide +kernel
theorem dX10_sayingOf_75 : decode cX10_sayingOf 75 = .ok (.ireturn, 1) := by decide +kernel
theorem dX10_sayingOf_76 : decode cX10_sayingOf 76 = .ok (.iload_n 1, 1) := by decide +kernel
theorem dX10_sayingOf_77 : decode cX10_sayingOf 77 = .ok (.bipush 105, 2) := by decide +kernel
theorem dX10_sayingOf_79 : decode cX10_sayingOf 79 = .ok (.if_icmp .ne 7, 3) := by decide +kernel
theorem dX10_sayingOf_82 : decode cX10_sayingOf 82 = .ok (.iconst 0, 1) := by decide +kernel
theorem dX10_sayingOf_83 : decode cX10_sayingOf 83 = .ok (.goto 15, 3) := by decide +kernel
theorem dX10_sayingOf_86 : decode cX10_sayingOf 86 = .ok (.iload_n 1, 1) := by decide +kernel
theorem dX10_sayingOf_87 : decode cX10_sayingOf 87 = .ok (.bipush 119, 2) := by decide +kernel
theorem dX10_sayingOf_89 : decode cX10_sayingOf 89 = .ok (.if_icmp .ne 7, 3) := by decide +kernel
theorem dX10_sayingOf_92 : decode cX10_sayingOf 92 = .ok (.iconst 1, 1) := by decide +kernel
theorem dX10_sayingOf_93 : decode cX10_sayingOf 93 = .ok (.goto 5, 3) := by decide +kernel
theorem dX10_sayingOf_96 : decode cX10_sayingOf 96 = .ok (.bipush (-9), 2) := by decide +kernel
theorem dX10_sayingOf_98 : decode cX10_sayingOf 98 = .ok (.ireturn, 1) := by decide +kernel
theorem dX10_sayingOf_99 : decode cX10_sayingOf 99 = .ok (.iload_n 0, 1) := by decide +kernel
theorem dX10_sayingOf_100 : decode cX10_sayingOf 100 = .ok (.bipush 7, 2) := by decide +kernel
theorem dX10_sayingOf_102 : decode cX10_sayingOf 102 = .ok (.if_icmp .ge 24, 3) := by decide +kernel
theorem dX10_sayingOf_105 : decode cX10_sayingOf 105 = .ok (.iload_n 1, 1) := by decide +kernel
theorem dX10_sayingOf_106 : decode cX10_sayingOf 106 = .ok (.i2l, 1) := by decide +kernel
theorem dX10_sayingOf_107 : decode cX10_sayingOf 107 = .ok (.ldc2_w 126, 3) := by decide +kernel
theorem dX10_sayingOf_110 : decode cX10_sayingOf 110 = .ok (.ldc2_w 132, 3) := by decide +kernel
theorem dX10_sayingOf_113 : decode cX10_sayingOf 113 = .ok (.invokestatic 83, 3) := by decide +kernel
theorem dX10_sayingOf_116 : decode cX10_sayingOf 116 = .ok (.ifCond .eq 10, 3) := by decide +kernel
theorem dX10_sayingOf_119 : decode cX10_sayingOf 119 = .ok (.iload_n 1, 1) := by decide +kernel
theorem dX10_sayingOf_120 : decode cX10_sayingOf 120 = .ok (.bipush 97, 2) := by decide +kernel
theorem dX10_sayingOf_122 : decode cX10_sayingOf 122 = .ok (.isub, 1) := by decide +kernel
theorem dX10_sayingOf_123 : decode cX10_sayingOf 123 = .ok (.goto 5, 3) := by decide +kernel
theorem dX10_sayingOf_126 : decode cX10_sayingOf 126 = .ok (.bipush (-9), 2) := by decide +kernel
theorem dX10_sayingOf_128 : decode cX10_sayingOf 128 = .ok (.ireturn, 1) := by decide +kernel
noncomputable def F10_sayingOf_b126 (v0 : Int32) (v1 : Int32) : Option (Int32) :=
  some (-9 : Int32)
noncomputable def F10_sayingOf (v0 : Int32) (v1 : Int32) : Option (Int32) :=
  (if v0 = (0 : Int32) then ((F10_in v1.toInt64 (97 : Int64) (120 : Int64)).bind (fun q5 => (if q5 = (0 : Int32) then some (-9 : Int32) else some (v1 - (97 : Int32))))) else (if v0 = (1 : Int32) then ((F10_in v1.toInt64 (48 : Int64) (55 : Int64)).bind (fun q7 => (if q7 = (0 : Int32) then some (-9 : Int32) else some (v1 - (48 : Int32))))) else (if v0 = (2 : Int32) then (if v1 = (105 : Int32) then some (0 : Int32) else (if v1 = (119 : Int32) then some (1 : Int32) else some (-9 : Int32))) else (if (7 : Int32) ≤ v0 then (F10_sayingOf_b126 v0 v1) else ((F10_in v1.toInt64 (97 : Int64) (104 : Int64)).bind (fun q9 => (if q9 = (0 : Int32) then (F10_sayingOf_b126 v0 v1) else some (v1 - (97 : Int32)))))))))
set_option maxHeartbeats 4000000 in
set_option maxRecDepth 100000 in
theorem kX10_sayingOf (l : Launch) (g : GG) (v0 : Int32) (v1 : Int32) (mc mm : Mem) (q : Int32) (hF : F10_sayingOf v0 v1 = some q) : KI l yX10_sayingOf cX10_sayingOf 2 .int 1 25 g [.int v0, .int v1] mc mm q (mc, mm) := by
  intro sz
  refine x_start (Qc := fun z => QI g z q (mc, mm)) (by decide +kernel) (Nat.le_of_ble_eq_true rfl) ?_ sz
  intro p e s m args below meth c ls Z hr hlk hP hl
  have hx := Z.1.1
  have hb := Z.1.2.1
  have hown := Z.1.2.2.2.1
  have hts := Z.1.2.2.2.2
  have hS : va_S (AA g s.heap.size) s.heap s.heap [] := va_S.rf
  have hl : lv_has ls 2 [(0, .int v0), (1, .int v1)] := hl
  unfold F10_sayingOf at hF
  have hb126 : F10_sayingOf_b126 v0 v1 = some q → ∀ (H : Heap) (locs : List Loc) (ls : Array Slot), lv_has ls 2 [] → va_P g.2.2.1 vwCl (wL g mc mm) H → va_S (AA g s.heap.size) s.heap H locs → W p l e { frames := 1, cells := 0, slots := 0, locals := 25 } s m args below meth c H locs 0 0 (MQ below (QI g s.heap.size q (mc, mm)) args s 0 0 (AA g s.heap.size)) (F0 m 126 ls []) := by
    intro hF H locs ls hl hP hS
    unfold F10_sayingOf_b126 at hF
    refine lv_bipush (v := (-9 : Int32)) hx hb dX10_sayingOf_126 bp_m9 ?_
    exact ret_I Z hr hlk hP hS hF dX10_sayingOf_128
  refine lv_iload_n hx hb dX10_sayingOf_0 rfl (lv_at hl 0 rfl) ?_
  by_cases hc4 : v0 = (0 : Int32)
  · have hF := (if_pos hc4).symm.trans hF
    refine lv_tableIn (off := 27) (tgt := 28) hx hb dX10_sayingOf_1 (by rw [hc4]; decide) (by rw [hc4]; decide) (by rw [hc4]; rfl) rfl ?_
    refine lv_iload_n hx hb dX10_sayingOf_28 rfl (lv_at hl 1 rfl) ?_
    refine lv_i2l (v := v1.toInt64) hx hb dX10_sayingOf_29 rfl ?_
    refine lv_ldc2 (v := (97 : Int64)) hx hb hown (hts _ wd_15_9) dX10_sayingOf_30 ?_
    refine lv_ldc2 (v := (120 : Int64)) hx hb hown (hts _ wd_15_10) dX10_sayingOf_33 ?_
    obtain ⟨q5, hq5, hF⟩ := bd_ok hF
    refine xX10_in Z hP hS hq5 wd_13_8 hl.1 (Nat.le_of_ble_eq_true rfl) ⟨Nat.le_of_ble_eq_true rfl, Nat.le_of_ble_eq_true rfl⟩ dX10_sayingOf_36 (fun H locs hP hS => ?_)
    refine lv_if_eq (tgt := 49) hx hb dX10_sayingOf_39 rfl (fun hc => ?_) (fun hc => ?_)
    · have hF := (if_pos hc).symm.trans hF
      refine lv_bipush (v := (-9 : Int32)) hx hb dX10_sayingOf_49 bp_m9 ?_
      exact ret_I Z hr hlk hP hS hF dX10_sayingOf_51
    · have hF := (if_neg hc).symm.trans hF
      refine lv_iload_n hx hb dX10_sayingOf_42 rfl (lv_at hl 1 rfl) ?_
      refine lv_bipush (v := (97 : Int32)) hx hb dX10_sayingOf_43 bp_97 ?_
      refine lv_isub hx hb dX10_sayingOf_45 ?_
      refine lv_goto (tgt := 51) hx hb dX10_sayingOf_46 rfl ?_
      exact ret_I Z hr hlk hP hS hF dX10_sayingOf_51
  have hF := (if_neg hc4).symm.trans hF
  by_cases hc6 : v0 = (1 : Int32)
  · have hF := (if_pos hc6).symm.trans hF
    refine lv_tableIn (off := 51) (tgt := 52) hx hb dX10_sayingOf_1 (by rw [hc6]; decide) (by rw [hc6]; decide) (by rw [hc6]; rfl) rfl ?_
    refine lv_iload_n hx hb dX10_sayingOf_52 rfl (lv_at hl 1 rfl) ?_
    refine lv_i2l (v := v1.toInt64) hx hb dX10_sayingOf_53 rfl ?_
    refine lv_ldc2 (v := (48 : Int64)) hx hb hown (hts _ wd_14_23) dX10_sayingOf_54 ?_
    refine lv_ldc2 (v := (55 : Int64)) hx hb hown (hts _ wd_15_11) dX10_sayingOf_57 ?_
    obtain ⟨q7, hq7, hF⟩ := bd_ok hF
    refine xX10_in Z hP hS hq7 wd_13_8 hl.1 (Nat.le_of_ble_eq_true rfl) ⟨Nat.le_of_ble_eq_true rfl, Nat.le_of_ble_eq_true rfl⟩ dX10_sayingOf_60 (fun H locs hP hS => ?_)
    refine lv_if_eq (tgt := 73) hx hb dX10_sayingOf_63 rfl (fun hc => ?_) (fun hc => ?_)
    · have hF := (if_pos hc).symm.trans hF
      refine lv_bipush (v := (-9 : Int32)) hx hb dX10_sayingOf_73 bp_m9 ?_
      exact ret_I Z hr hlk hP hS hF dX10_sayingOf_75
    · have hF := (if_neg hc).symm.trans hF
      refine lv_iload_n hx hb dX10_sayingOf_66 rfl (lv_at hl 1 rfl) ?_
      refine lv_bipush (v := (48 : Int32)) hx hb dX10_sayingOf_67 bp_48 ?_
      refine lv_isub hx hb dX10_sayingOf_69 ?_
      refine lv_goto (tgt := 75) hx hb dX10_sayingOf_70 rfl ?_
      exact ret_I Z hr hlk hP hS hF dX10_sayingOf_75
  have hF := (if_neg hc6).symm.trans hF
  by_cases hc8 : v0 = (2 : Int32)
  · have hF := (if_pos hc8).symm.trans hF
    refine lv_tableIn (off := 75) (tgt := 76) hx hb dX10_sayingOf_1 (by rw [hc8]; decide) (by rw [hc8]; decide) (by rw [hc8]; rfl) rfl ?_
    refine lv_iload_n hx hb dX10_sayingOf_76 rfl (lv_at hl 1 rfl) ?_
    refine lv_bipush (v := (105 : Int32)) hx hb dX10_sayingOf_77 bp_105 ?_
    refine lv_icmp_ne (tgt := 86) hx hb dX10_sayingOf_79 rfl (fun hc => ?_) (fun hc => ?_)
    · have hF := (if_neg hc).symm.trans hF
      refine lv_iload_n hx hb dX10_sayingOf_86 rfl (lv_at hl 1 rfl) ?_
      refine lv_bipush (v := (119 : Int32)) hx hb dX10_sayingOf_87 bp_119 ?_
      refine lv_icmp_ne (tgt := 96) hx hb dX10_sayingOf_89 rfl (fun hc => ?_) (fun hc => ?_)
      · have hF := (if_neg hc).symm.trans hF
        refine lv_bipush (v := (-9 : Int32)) hx hb dX10_sayingOf_96 bp_m9 ?_
        exact ret_I Z hr hlk hP hS hF dX10_sayingOf_98
      · have hF := (if_pos hc).symm.trans hF
        refine lv_iconst (v := (1 : Int32)) hx hb dX10_sayingOf_92 ic_1 ?_
        refine lv_goto (tgt := 98) hx hb dX10_sayingOf_93 rfl ?_
        exact ret_I Z hr hlk hP hS hF dX10_sayingOf_98
    · have hF := (if_pos hc).symm.trans hF
      refine lv_iconst (v := (0 : Int32)) hx hb dX10_sayingOf_82 ic_0 ?_
      refine lv_goto (tgt := 98) hx hb dX10_sayingOf_83 rfl ?_
      exact ret_I Z hr hlk hP hS hF dX10_sayingOf_98
  have hF := (if_neg hc8).symm.trans hF
  refine lv_tableOut (tgt := 99) hx hb dX10_sayingOf_1 (sw_3 hc4 hc6 hc8) rfl ?_
  refine lv_iload_n hx hb dX10_sayingOf_99 rfl (lv_at hl 0 rfl) ?_
  refine lv_bipush (v := (7 : Int32)) hx hb dX10_sayingOf_100 bp_7 ?_
  refine lv_icmp_ge (tgt := 126) hx hb dX10_sayingOf_102 rfl (fun hc => ?_) (fun hc => ?_)
  · have hF := (if_pos hc).symm.trans hF
    exact hb126  hF _ _ _ (lv_sub hl [] rfl) hP hS
  · have hF := (if_neg hc).symm.trans hF
    refine lv_iload_n hx hb dX10_sayingOf_105 rfl (lv_at hl 1 rfl) ?_
    refine lv_i2l (v := v1.toInt64) hx hb dX10_sayingOf_106 rfl ?_
    refine lv_ldc2 (v := (97 : Int64)) hx hb hown (hts _ wd_15_9) dX10_sayingOf_107 ?_
    refine lv_ldc2 (v := (104 : Int64)) hx hb hown (hts _ wd_15_12) dX10_sayingOf_110 ?_
    obtain ⟨q9, hq9, hF⟩ := bd_ok hF
    refine xX10_in Z hP hS hq9 wd_13_8 hl.1 (Nat.le_of_ble_eq_true rfl) ⟨Nat.le_of_ble_eq_true rfl, Nat.le_of_ble_eq_true rfl⟩ dX10_sayingOf_113 (fun H locs hP hS => ?_)
    refine lv_if_eq (tgt := 126) hx hb dX10_sayingOf_116 rfl (fun hc => ?_) (fun hc => ?_)
    · have hF := (if_pos hc).symm.trans hF
      exact hb126  hF _ _ _ (lv_sub hl [] rfl) hP hS
    · have hF := (if_neg hc).symm.trans hF
      refine lv_iload_n hx hb dX10_sayingOf_119 rfl (lv_at hl 1 rfl) ?_
      refine lv_bipush (v := (97 : Int32)) hx hb dX10_sayingOf_120 bp_97 ?_
      refine lv_isub hx hb dX10_sayingOf_122 ?_
      refine lv_goto (tgt := 128) hx hb dX10_sayingOf_123 rfl ?_
      exact ret_I Z hr hlk hP hS hF dX10_sayingOf_128
theorem xX10_sayingOf {p : Program} {l : Launch} {e : Env} {R : Room} {s : State} {m : MethodId} {args : Array Value} {below : List Frame} {meth : Method} {c : Code} {H : Heap} {locs : List Loc} {Q : State → Prop} {cc : ByteArray} {nL : Nat} {own : String} {g : GG} {pc index : Nat} {ls : Array Slot} {rest : List Value} {mc mm : Mem} (Z : ZZ p s m args c cc nL own g) (hP : va_P g.2.2.1 vwCl (wL g mc mm) H) (hS : va_S (AA g s.heap.size) s.heap H locs) {v0 : Int32} {v1 : Int32} {q : Int32} (hq : F10_sayingOf v0 v1 = some q) (hlk : Cond.methodLink own index yX10_sayingOf ∈ wsL_law) (hsz : ls.size = nL) (hro : (rest.map fun v => v.category).sum ≤ 8) (hR : 1 + 1 ≤ R.frames ∧ 8 + (2 + 11) + 25 ≤ R.locals) (hdg : decode cc pc = .ok (.invokestatic index, 3)) (kk : ∀ (H : Heap) (locs : List Loc), va_P g.2.2.1 vwCl (wL g mc mm) H → va_S (AA g s.heap.size) s.heap H locs → W p l e R s m args below meth c H locs 0 0 Q (F0 m (pc + 3) ls (.int q :: rest))) : W p l e R s m args below meth c H locs 0 0 Q (F0 m pc ls (.int v1 :: .int v0 :: rest)) :=
  x_SI Z hP hS (kX10_sayingOf l g v0 v1 mc mm q hq) mf_X10_sayingOf wd_15_7 hlk rfl rfl hsz hro hR hdg kk

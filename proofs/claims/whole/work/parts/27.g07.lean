theorem dX9_addEvents_0 : decode cX9_addEvents 0 = .ok (.iconst 0, 1) := by decide +kernel
theorem dX9_addEvents_1 : decode cX9_addEvents 1 = .ok (.istore_n 2, 1) := by decide +kernel
theorem dX9_addEvents_2 : decode cX9_addEvents 2 = .ok (.iconst 0, 1) := by decide +kernel
theorem dX9_addEvents_3 : decode cX9_addEvents 3 = .ok (.istore_n 3, 1) := by decide +kernel
theorem dX9_addEvents_4 : decode cX9_addEvents 4 = .ok (.iload_n 3, 1) := by decide +kernel
theorem dX9_addEvents_5 : decode cX9_addEvents 5 = .ok (.iconst 2, 1) := by decide +kernel
theorem dX9_addEvents_6 : decode cX9_addEvents 6 = .ok (.iadd, 1) := by decide +kernel
theorem dX9_addEvents_7 : decode cX9_addEvents 7 = .ok (.aload_n 1, 1) := by decide +kernel
theorem dX9_addEvents_8 : decode cX9_addEvents 8 = .ok (.getfield 276, 3) := by decide +kernel
theorem dX9_addEvents_11 : decode cX9_addEvents 11 = .ok (.if_icmp .ge 71, 3) := by decide +kernel
theorem dX9_addEvents_14 : decode cX9_addEvents 14 = .ok (.aload_n 1, 1) := by decide +kernel
theorem dX9_addEvents_15 : decode cX9_addEvents 15 = .ok (.getfield 286, 3) := by decide +kernel
theorem dX9_addEvents_18 : decode cX9_addEvents 18 = .ok (.iload_n 3, 1) := by decide +kernel
theorem dX9_addEvents_19 : decode cX9_addEvents 19 = .ok (.iaload, 1) := by decide +kernel
theorem dX9_addEvents_20 : decode cX9_addEvents 20 = .ok (.istore 4, 2) := by decide +kernel
theorem dX9_addEvents_22 : decode cX9_addEvents 22 = .ok (.aload_n 1, 1) := by decide +kernel
theorem dX9_addEvents_23 : decode cX9_addEvents 23 = .ok (.getfield 286, 3) := by decide +kernel
theorem dX9_addEvents_26 : decode cX9_addEvents 26 = .ok (.iload_n 3, 1) := by decide +kernel
theorem dX9_addEvents_27 : decode cX9_addEvents 27 = .ok (.iconst 1, 1) := by decide +kernel
theorem dX9_addEvents_28 : decode cX9_addEvents 28 = .ok (.iadd, 1) := by decide +kernel
theorem dX9_addEvents_29 : decode cX9_addEvents 29 = .ok (.iaload, 1) := by decide +kernel
theorem dX9_addEvents_30 : decode cX9_addEvents 30 = .ok (.istore 5, 2) := by decide +kernel
theorem dX9_addEvents_32 : decode cX9_addEvents 32 = .ok (.aload_n 1, 1) := by decide +kernel
theorem dX9_addEvents_33 : decode cX9_addEvents 33 = .ok (.getfield 286, 3) := by decide +kernel
theorem dX9_addEvents_36 : decode cX9_addEvents 36 = .ok (.iload_n 3, 1) := by decide +kernel
theorem dX9_addEvents_37 : decode cX9_addEvents 37 = .ok (.iconst 2, 1) := by decide +kernel
theorem dX9_addEvents_38 : decode cX9_addEvents 38 = .ok (.iadd, 1) := by decide +kernel
theorem dX9_addEvents_39 : decode cX9_addEvents 39 = .ok (.iaload, 1) := by decide +kernel
theorem dX9_addEvents_40 : decode cX9_addEvents 40 = .ok (.istore 6, 2) := by decide +kernel
theorem dX9_addEvents_42 : decode cX9_addEvents 42 = .ok (.iload 4, 2) := by decide +kernel
theorem dX9_addEvents_44 : decode cX9_addEvents 44 = .ok (.iload 5, 2) := by decide +kernel
theorem dX9_addEvents_46 : decode cX9_addEvents 46 = .ok (.iload 6, 2) := by decide +kernel
theorem dX9_addEvents_48 : decode cX9_addEvents 48 = .ok (.invokestatic 151, 3) := by decide +kernel
theorem dX9_addEvents_51 : decode cX9_addEvents 51 = .ok (.ifCond .eq 31, 3) := by decide +kernel
theorem dX9_addEvents_54 : decode cX9_addEvents 54 = .ok (.aload_n 0, 1) := by decide +kernel
theorem dX9_addEvents_55 : decode cX9_addEvents 55 = .ok (.getfield 35, 3) := by decide +kernel
theorem dX9_addEvents_58 : decode cX9_addEvents 58 = .ok (.iload 4, 2) := by decide +kernel
theorem dX9_addEvents_60 : decode cX9_addEvents 60 = .ok (.iload 5, 2) := by decide +kernel
theorem dX9_addEvents_62 : decode cX9_addEvents 62 = .ok (.iload 6, 2) := by decide +kernel
theorem dX9_addEvents_64 : decode cX9_addEvents 64 = .ok (.invokevirtual 155, 3) := by decide +kernel
theorem dX9_addEvents_67 : decode cX9_addEvents 67 = .ok (.ifCond .ne 6, 3) := by decide +kernel
theorem dX9_addEvents_70 : decode cX9_addEvents 70 = .ok (.goto 12, 3) := by decide +kernel
theorem dX9_addEvents_73 : decode cX9_addEvents 73 = .ok (.iinc 2 1, 3) := by decide +kernel
theorem dX9_addEvents_76 : decode cX9_addEvents 76 = .ok (.iinc 3 3, 3) := by decide +kernel
theorem dX9_addEvents_79 : decode cX9_addEvents 79 = .ok (.goto (-75), 3) := by decide +kernel
theorem dX9_addEvents_82 : decode cX9_addEvents 82 = .ok (.iload_n 2, 1) := by decide +kernel
theorem dX9_addEvents_83 : decode cX9_addEvents 83 = .ok (.ireturn, 1) := by decide +kernel
noncomputable def F9_addEvents_b70 (v1 : Nat) (a2 : Int32) (M : Mem) : Option (Int32 × Mem) :=
  some (a2, M)
noncomputable def F9_addEvents_p4 (kh : Int32 → Int32 → Mem → Option (Int32 × Mem)) (kx70 : Int32 → Mem → Option (Int32 × Mem)) (v1 : Nat) (a2 : Int32) (a3 : Int32) (M : Mem) : Option (Int32 × Mem) :=
  (if (M v1 2) ≤ (a3 + (2 : Int32)) then some (a2, M) else (ck a3 60 (ck (a3 + (1 : Int32)) 60 (ck (a3 + (2 : Int32)) 60 ((F9_mayBeEvent (M (v1 + 1) a3.toNatClampNeg) (M (v1 + 1) (a3 + (1 : Int32)).toNatClampNeg) (M (v1 + 1) (a3 + (2 : Int32)).toNatClampNeg)).bind (fun q9 => (if q9 = (0 : Int32) then some (a2, M) else ((F2_add 17 (M (v1 + 1) a3.toNatClampNeg) (M (v1 + 1) (a3 + (1 : Int32)).toNatClampNeg) (M (v1 + 1) (a3 + (2 : Int32)).toNatClampNeg) M).bind (fun q10 => (if q10.1 = (0 : Int32) then kx70 a2 q10.2 else kh (a2 + (1 : Int32)) (a3 + (3 : Int32)) q10.2))))))))))
noncomputable def F9_addEvents_h4 (kx70 : Int32 → Mem → Option (Int32 × Mem)) (v1 : Nat) : Nat → Int32 → Int32 → Mem → Option (Int32 × Mem)
  | 0, _, _, _ => none
  | n + 1, a2, a3, M => F9_addEvents_p4 (F9_addEvents_h4 kx70 v1 n) kx70 v1 a2 a3 M
noncomputable def F9_addEvents (v1 : Nat) (mc : Mem) : Option (Int32 × Mem) :=
  (F9_addEvents_h4 (F9_addEvents_b70 v1) v1 FU) (0 : Int32) (0 : Int32) mc
set_option maxHeartbeats 4000000 in
set_option maxRecDepth 100000 in
theorem kX9_addEvents (l : Launch) (g : GG) (v1 : Nat) (h1 : isO 6 v1) (mc mm : Mem) (q : Int32 × Mem) (hF : F9_addEvents v1 mc = some q) : KI l yX9_addEvents cX9_addEvents 7 .int 2 43 g [.ref (g.1 0), .ref (g.1 v1)] mc mm q.1 (q.2, mm) := by
  intro sz
  refine x_start (Qc := fun z => QI g z q.1 (q.2, mm)) (by decide +kernel) (Nat.le_of_ble_eq_true rfl) ?_ sz
  intro p e s m args below meth c ls Z hr hlk hP hl
  have hx := Z.1.1
  have hb := Z.1.2.1
  have hown := Z.1.2.2.2.1
  have hts := Z.1.2.2.2.2
  have hS : va_S (AA g s.heap.size) s.heap s.heap [] := va_S.rf
  have hl : lv_has ls 7 [(0, .ref (g.1 0)), (1, .ref (g.1 v1))] := hl
  unfold F9_addEvents at hF
  have hb70 : ∀ (a2 : Int32) (M : Mem), F9_addEvents_b70 v1 a2 M = some q → ∀ (H : Heap) (locs : List Loc) (ls : Array Slot), lv_has ls 7 [(2, .int a2)] → va_P g.2.2.1 vwCl (wL g M mm) H → va_S (AA g s.heap.size) s.heap H locs → W p l e { frames := 2, cells := 0, slots := 0, locals := 43 } s m args below meth c H locs 0 0 (MQ below (QI g s.heap.size q.1 (q.2, mm)) args s 0 0 (AA g s.heap.size)) (F0 m 70 ls []) := by
    intro a2 M hF H locs ls hl hP hS
    unfold F9_addEvents_b70 at hF
    refine lv_goto (tgt := 82) hx hb dX9_addEvents_70 rfl ?_
    refine lv_iload_n hx hb dX9_addEvents_82 rfl (lv_at hl 0 rfl) ?_
    exact ret_IWC Z hr hlk hP hS hF dX9_addEvents_83
  have hL4 : ∀ (kx70 : Int32 → Mem → Option (Int32 × Mem)), (∀ (a2 : Int32) (M : Mem), kx70 a2 M = some q → ∀ (H : Heap) (locs : List Loc) (ls : Array Slot), lv_has ls 7 [(2, .int a2)] → va_P g.2.2.1 vwCl (wL g M mm) H → va_S (AA g s.heap.size) s.heap H locs → W p l e { frames := 2, cells := 0, slots := 0, locals := 43 } s m args below meth c H locs 0 0 (MQ below (QI g s.heap.size q.1 (q.2, mm)) args s 0 0 (AA g s.heap.size)) (F0 m 70 ls [])) → ∀ n : Nat, ∀ (a2 : Int32) (a3 : Int32) (M : Mem), F9_addEvents_h4 kx70 v1 n a2 a3 M = some q → ∀ (H : Heap) (locs : List Loc) (ls : Array Slot), lv_has ls 7 [(0, .ref (g.1 0)), (1, .ref (g.1 v1)), (2, .int a2), (3, .int a3)] → va_P g.2.2.1 vwCl (wL g M mm) H → va_S (AA g s.heap.size) s.heap H locs → W p l e { frames := 2, cells := 0, slots := 0, locals := 43 } s m args below meth c H locs 0 0 (MQ below (QI g s.heap.size q.1 (q.2, mm)) args s 0 0 (AA g s.heap.size)) (F0 m 4 ls []) := by
    intro kx70 hx70 n
    induction n with
    | zero => intro a2 a3 M hF H locs ls hl hP hS; exact absurd hF (fun z => nomatch (show (none : Option _) = some q from z))
    | succ n ih =>
      generalize hkh : F9_addEvents_h4 kx70 v1 n = kh at ih
      intro a2 a3 M hF H locs ls hl hP hS
      have hF : F9_addEvents_p4 (F9_addEvents_h4 kx70 v1 n) kx70 v1 a2 a3 M = some q := hF
      rw [hkh] at hF
      unfold F9_addEvents_p4 at hF
      refine lv_iload_n hx hb dX9_addEvents_4 rfl (lv_at hl 3 rfl) ?_
      refine lv_iconst (v := (2 : Int32)) hx hb dX9_addEvents_5 ic_2 ?_
      refine lv_iadd hx hb dX9_addEvents_6 ?_
      refine lv_aload_n hx hb dX9_addEvents_7 rfl (lv_at hl 1 rfl) ?_
      refine gf6_2N Z hP h1 nf_22 dX9_addEvents_8 ?_
      refine lv_icmp_ge (tgt := 82) hx hb dX9_addEvents_11 rfl (fun hc => ?_) (fun hc => ?_)
      · have hF := (if_pos hc).symm.trans hF
        refine lv_iload_n hx hb dX9_addEvents_82 rfl (lv_at hl 2 rfl) ?_
        exact ret_IWC Z hr hlk hP hS hF dX9_addEvents_83
      · have hF := (if_neg hc).symm.trans hF
        refine lv_aload_n hx hb dX9_addEvents_14 rfl (lv_at hl 1 rfl) ?_
        refine gf6_0N Z hP h1 nf_23 dX9_addEvents_15 ?_
        refine lv_iload_n hx hb dX9_addEvents_18 rfl (lv_at hl 3 rfl) ?_
        obtain ⟨hi6, hF⟩ := ck_ok hF
        refine ra_ld Z hP (ia_6_0 h1) hi6 dX9_addEvents_19 ?_
        refine lv_istore (lv' := [(4, .int (M (v1 + 1) a3.toNatClampNeg)), (0, .ref (g.1 0)), (1, .ref (g.1 v1)), (2, .int a2), (3, .int a3)]) hx hb dX9_addEvents_20 hl (Nat.le_of_ble_eq_true rfl) rfl (fun ls hl => ?_)
        refine lv_aload_n hx hb dX9_addEvents_22 rfl (lv_at hl 2 rfl) ?_
        refine gf6_0N Z hP h1 nf_23 dX9_addEvents_23 ?_
        refine lv_iload_n hx hb dX9_addEvents_26 rfl (lv_at hl 4 rfl) ?_
        refine lv_iconst (v := (1 : Int32)) hx hb dX9_addEvents_27 ic_1 ?_
        refine lv_iadd hx hb dX9_addEvents_28 ?_
        obtain ⟨hi7, hF⟩ := ck_ok hF
        refine ra_ld Z hP (ia_6_0 h1) hi7 dX9_addEvents_29 ?_
        refine lv_istore (lv' := [(5, .int (M (v1 + 1) (a3 + (1 : Int32)).toNatClampNeg)), (4, .int (M (v1 + 1) a3.toNatClampNeg)), (0, .ref (g.1 0)), (1, .ref (g.1 v1)), (2, .int a2), (3, .int a3)]) hx hb dX9_addEvents_30 hl (Nat.le_of_ble_eq_true rfl) rfl (fun ls hl => ?_)
        refine lv_aload_n hx hb dX9_addEvents_32 rfl (lv_at hl 3 rfl) ?_
        refine gf6_0N Z hP h1 nf_23 dX9_addEvents_33 ?_
        refine lv_iload_n hx hb dX9_addEvents_36 rfl (lv_at hl 5 rfl) ?_
        refine lv_iconst (v := (2 : Int32)) hx hb dX9_addEvents_37 ic_2 ?_
        refine lv_iadd hx hb dX9_addEvents_38 ?_
        obtain ⟨hi8, hF⟩ := ck_ok hF
        refine ra_ld Z hP (ia_6_0 h1) hi8 dX9_addEvents_39 ?_
        refine lv_istore (lv' := [(6, .int (M (v1 + 1) (a3 + (2 : Int32)).toNatClampNeg)), (5, .int (M (v1 + 1) (a3 + (1 : Int32)).toNatClampNeg)), (4, .int (M (v1 + 1) a3.toNatClampNeg)), (0, .ref (g.1 0)), (1, .ref (g.1 v1)), (2, .int a2), (3, .int a3)]) hx hb dX9_addEvents_40 hl (Nat.le_of_ble_eq_true rfl) rfl (fun ls hl => ?_)
        refine lv_iload hx hb dX9_addEvents_42 (lv_at hl 2 rfl) ?_
        refine lv_iload hx hb dX9_addEvents_44 (lv_at hl 1 rfl) ?_
        refine lv_iload hx hb dX9_addEvents_46 (lv_at hl 0 rfl) ?_
        obtain ⟨q9, hq9, hF⟩ := bd_ok hF
        refine xX9_mayBeEvent Z hP hS hq9 wd_17_15 hl.1 (Nat.le_of_ble_eq_true rfl) ⟨Nat.le_of_ble_eq_true rfl, Nat.le_of_ble_eq_true rfl⟩ dX9_addEvents_48 (fun H locs hP hS => ?_)
        refine lv_if_eq (tgt := 82) hx hb dX9_addEvents_51 rfl (fun hc => ?_) (fun hc => ?_)
        · have hF := (if_pos hc).symm.trans hF
          refine lv_iload_n hx hb dX9_addEvents_82 rfl (lv_at hl 5 rfl) ?_
          exact ret_IWC Z hr hlk hP hS hF dX9_addEvents_83
        · have hF := (if_neg hc).symm.trans hF
          refine lv_aload_n hx hb dX9_addEvents_54 rfl (lv_at hl 3 rfl) ?_
          refine gf9_3 Z hP wd_2_3 dX9_addEvents_55 ?_
          refine lv_iload hx hb dX9_addEvents_58 (lv_at hl 2 rfl) ?_
          refine lv_iload hx hb dX9_addEvents_60 (lv_at hl 1 rfl) ?_
          refine lv_iload hx hb dX9_addEvents_62 (lv_at hl 0 rfl) ?_
          obtain ⟨q10, hq10, hF⟩ := bd_ok hF
          refine xX2_add Z hP hS ck_17 hq10 wd_17_18 hl.1 (Nat.le_of_ble_eq_true rfl) ⟨Nat.le_of_ble_eq_true rfl, Nat.le_of_ble_eq_true rfl⟩ dX9_addEvents_64 (fun H locs hP hS => ?_)
          refine lv_if_ne (tgt := 73) hx hb dX9_addEvents_67 rfl (fun hc => ?_) (fun hc => ?_)
          · have hF := (if_neg hc).symm.trans hF
            refine lv_iinc (lv' := [(2, .int (a2 + (1 : Int32))), (6, .int (M (v1 + 1) (a3 + (2 : Int32)).toNatClampNeg)), (5, .int (M (v1 + 1) (a3 + (1 : Int32)).toNatClampNeg)), (4, .int (M (v1 + 1) a3.toNatClampNeg)), (0, .ref (g.1 0)), (1, .ref (g.1 v1)), (3, .int a3)]) (v := (a2 + (1 : Int32))) hx hb dX9_addEvents_73 hl (k := 5) rfl (io_1 _) (Nat.le_of_ble_eq_true rfl) rfl (fun ls hl => ?_)
            refine lv_iinc (lv' := [(3, .int (a3 + (3 : Int32))), (2, .int (a2 + (1 : Int32))), (6, .int (M (v1 + 1) (a3 + (2 : Int32)).toNatClampNeg)), (5, .int (M (v1 + 1) (a3 + (1 : Int32)).toNatClampNeg)), (4, .int (M (v1 + 1) a3.toNatClampNeg)), (0, .ref (g.1 0)), (1, .ref (g.1 v1))]) (v := (a3 + (3 : Int32))) hx hb dX9_addEvents_76 hl (k := 6) rfl (io_3 _) (Nat.le_of_ble_eq_true rfl) rfl (fun ls hl => ?_)
            refine lv_goto (tgt := 4) hx hb dX9_addEvents_79 rfl ?_
            exact ih _ _ _ hF _ _ _ (lv_sub hl [5, 6, 1, 0] rfl) hP hS
          · have hF := (if_pos hc).symm.trans hF
            exact hx70 _ _ hF _ _ _ (lv_sub hl [5] rfl) hP hS
  refine lv_iconst (v := (0 : Int32)) hx hb dX9_addEvents_0 ic_0 ?_
  refine lv_istore_n (lv' := [(2, .int (0 : Int32)), (0, .ref (g.1 0)), (1, .ref (g.1 v1))]) hx hb dX9_addEvents_1 rfl hl (Nat.le_of_ble_eq_true rfl) rfl (fun ls hl => ?_)
  refine lv_iconst (v := (0 : Int32)) hx hb dX9_addEvents_2 ic_0 ?_
  refine lv_istore_n (lv' := [(3, .int (0 : Int32)), (2, .int (0 : Int32)), (0, .ref (g.1 0)), (1, .ref (g.1 v1))]) hx hb dX9_addEvents_3 rfl hl (Nat.le_of_ble_eq_true rfl) rfl (fun ls hl => ?_)
  exact (hL4 _ hb70 FU) _ _ _ hF _ _ _ (lv_sub hl [2, 3, 1, 0] rfl) hP hS
theorem xX9_addEvents {p : Program} {l : Launch} {e : Env} {R : Room} {s : State} {m : MethodId} {args : Array Value} {below : List Frame} {meth : Method} {c : Code} {H : Heap} {locs : List Loc} {Q : State → Prop} {cc : ByteArray} {nL : Nat} {own : String} {g : GG} {pc index : Nat} {ls : Array Slot} {rest : List Value} {mc mm : Mem} (Z : ZZ p s m args c cc nL own g) (hP : va_P g.2.2.1 vwCl (wL g mc mm) H) (hS : va_S (AA g s.heap.size) s.heap H locs) {v1 : Nat} (h1 : isO 6 v1) {q : Int32 × Mem} (hq : F9_addEvents v1 mc = some q) (hlk : Cond.methodLink own index yX9_addEvents ∈ wsL_law) (hsz : ls.size = nL) (hro : (rest.map fun v => v.category).sum ≤ 8) (hR : 2 + 1 ≤ R.frames ∧ 8 + (7 + 11) + 43 ≤ R.locals) (hdg : decode cc pc = .ok (.invokevirtual index, 3)) (kk : ∀ (H : Heap) (locs : List Loc), va_P g.2.2.1 vwCl (wL g q.2 mm) H → va_S (AA g s.heap.size) s.heap H locs → W p l e R s m args below meth c H locs 0 0 Q (F0 m (pc + 3) ls (.int q.1 :: rest))) : W p l e R s m args below meth c H locs 0 0 Q (F0 m pc ls (.ref (g.1 v1) :: .ref (g.1 0) :: rest)) :=
  x_VI Z hP hS (kX9_addEvents l g v1 h1 mc mm q hq) (isO_w ck_0) (ci := 9) (by decide) rfl rfl mf_X9_addEvents mv_X9_addEvents hlk rfl rfl hsz hro hR hdg kk
theorem dX9_read_0 : decode cX9_read 0 = .ok (.iload_n 1, 1) := by decide +kernel
theorem dX9_read_1 : decode cX9_read 1 = .ok (.iconst 4, 1) := by decide +kernel
theorem dX9_read_2 : decode cX9_read 2 = .ok (.invokestatic 101, 3) := by decide +kernel
theorem dX9_read_5 : decode cX9_read 5 = .ok (.ifCond .ne 6, 3) := by decide +kernel
theorem dX9_read_8 : decode cX9_read 8 = .ok (.bipush (-2), 2) := by decide +kernel
theorem dX9_read_10 : decode cX9_read 10 = .ok (.ireturn, 1) := by decide +kernel
theorem dX9_read_11 : decode cX9_read 11 = .ok (.aload_n 0, 1) := by decide +kernel
theorem dX9_read_12 : decode cX9_read 12 = .ok (.getfield 49, 3) := by decide +kernel
theorem dX9_read_15 : decode cX9_read 15 = .ok (.iload_n 1, 1) := by decide +kernel
theorem dX9_read_16 : decode cX9_read 16 = .ok (.aaload, 1) := by decide +kernel
theorem dX9_read_17 : decode cX9_read 17 = .ok (.invokevirtual 161, 3) := by decide +kernel
theorem dX9_read_20 : decode cX9_read 20 = .ok (.ifCond .eq 9, 3) := by decide +kernel
theorem dX9_read_23 : decode cX9_read 23 = .ok (.aload_n 0, 1) := by decide +kernel
theorem dX9_read_24 : decode cX9_read 24 = .ok (.iconst 1, 1) := by decide +kernel
theorem dX9_read_25 : decode cX9_read 25 = .ok (.invokevirtual 165, 3) := by decide +kernel
theorem dX9_read_28 : decode cX9_read 28 = .ok (.ireturn, 1) := by decide +kernel
theorem dX9_read_29 : decode cX9_read 29 = .ok (.aload_n 0, 1) := by decide +kernel
theorem dX9_read_30 : decode cX9_read 30 = .ok (.aload_n 0, 1) := by decide +kernel
theorem dX9_read_31 : decode cX9_read 31 = .ok (.getfield 49, 3) := by decide +kernel
theorem dX9_read_34 : decode cX9_read 34 = .ok (.iload_n 1, 1) := by decide +kernel
theorem dX9_read_35 : decode cX9_read 35 = .ok (.aaload, 1) := by decide +kernel
theorem dX9_read_36 : decode cX9_read 36 = .ok (.invokevirtual 169, 3) := by decide +kernel
theorem dX9_read_39 : decode cX9_read 39 = .ok (.istore_n 2, 1) := by decide +kernel
theorem dX9_read_40 : decode cX9_read 40 = .ok (.aload_n 0, 1) := by decide +kernel
theorem dX9_read_41 : decode cX9_read 41 = .ok (.invokevirtual 157, 3) := by decide +kernel
theorem dX9_read_44 : decode cX9_read 44 = .ok (.iload_n 2, 1) := by decide +kernel
theorem dX9_read_45 : decode cX9_read 45 = .ok (.ireturn, 1) := by decide +kernel
noncomputable def F9_read (v1 : Int32) (mc : Mem) : Option (Int32 × Mem) :=
  ((F9_in v1 (4 : Int32)).bind (fun q8 => (if q8 = (0 : Int32) then some ((-2 : Int32), mc) else (ck v1 4 ((F6_isLost (26 + 2 * v1.toNatClampNeg) mc).bind (fun q10 => (if q10 = (0 : Int32) then (ck v1 4 ((F9_addEvents (26 + 2 * v1.toNatClampNeg) mc).bind (fun q12 => ((F9_changed q12.2).bind (fun q13 => (some (q12.1, q13))))))) else ((F9_finding (1 : Int32) mc).bind (fun q14 => (some (q14.1, q14.2)))))))))))
set_option maxHeartbeats 4000000 in
set_option maxRecDepth 100000 in
theorem kX9_read (l : Launch) (g : GG) (v1 : Int32) (mc mm : Mem) (q : Int32 × Mem) (hF : F9_read v1 mc = some q) : KI l yX9_read cX9_read 3 .int 3 69 g [.ref (g.1 0), .int v1] mc mm q.1 (q.2, mm) := by
  intro sz
  refine x_start (Qc := fun z => QI g z q.1 (q.2, mm)) (by decide +kernel) (Nat.le_of_ble_eq_true rfl) ?_ sz
  intro p e s m args below meth c ls Z hr hlk hP hl
  have hx := Z.1.1
  have hb := Z.1.2.1
  have hown := Z.1.2.2.2.1
  have hts := Z.1.2.2.2.2
  have hS : va_S (AA g s.heap.size) s.heap s.heap [] := va_S.rf
  have hl : lv_has ls 3 [(0, .ref (g.1 0)), (1, .int v1)] := hl
  unfold F9_read at hF
  refine lv_iload_n hx hb dX9_read_0 rfl (lv_at hl 1 rfl) ?_
  refine lv_iconst (v := (4 : Int32)) hx hb dX9_read_1 ic_4 ?_
  obtain ⟨q8, hq8, hF⟩ := bd_ok hF
  refine xX9_in Z hP hS hq8 wd_7_7 hl.1 (Nat.le_of_ble_eq_true rfl) ⟨Nat.le_of_ble_eq_true rfl, Nat.le_of_ble_eq_true rfl⟩ dX9_read_2 (fun H locs hP hS => ?_)
  refine lv_if_ne (tgt := 11) hx hb dX9_read_5 rfl (fun hc => ?_) (fun hc => ?_)
  · have hF := (if_neg hc).symm.trans hF
    refine lv_aload_n hx hb dX9_read_11 rfl (lv_at hl 0 rfl) ?_
    refine gf9_5 Z hP wd_2_11 dX9_read_12 ?_
    refine lv_iload_n hx hb dX9_read_15 rfl (lv_at hl 1 rfl) ?_
    obtain ⟨hi9, hF⟩ := ck_ok hF
    refine rq_23 Z hP hi9 dX9_read_16 ?_
    obtain ⟨q10, hq10, hF⟩ := bd_ok hF
    refine xX6_isLost Z hP hS (ir_23 hi9) hq10 wd_19_4 hl.1 (Nat.le_of_ble_eq_true rfl) ⟨Nat.le_of_ble_eq_true rfl, Nat.le_of_ble_eq_true rfl⟩ dX9_read_17 (fun H locs hP hS => ?_)
    refine lv_if_eq (tgt := 29) hx hb dX9_read_20 rfl (fun hc => ?_) (fun hc => ?_)
    · have hF := (if_pos hc).symm.trans hF
      refine lv_aload_n hx hb dX9_read_29 rfl (lv_at hl 0 rfl) ?_
      refine lv_aload_n hx hb dX9_read_30 rfl (lv_at hl 0 rfl) ?_
      refine gf9_5 Z hP wd_2_11 dX9_read_31 ?_
      refine lv_iload_n hx hb dX9_read_34 rfl (lv_at hl 1 rfl) ?_
      obtain ⟨hi11, hF⟩ := ck_ok hF
      refine rq_23 Z hP hi11 dX9_read_35 ?_
      obtain ⟨q12, hq12, hF⟩ := bd_ok hF
      refine xX9_addEvents Z hP hS (ir_23 hi11) hq12 wd_19_13 hl.1 (Nat.le_of_ble_eq_true rfl) ⟨Nat.le_of_ble_eq_true rfl, Nat.le_of_ble_eq_true rfl⟩ dX9_read_36 (fun H locs hP hS => ?_)
      refine lv_istore_n (lv' := [(2, .int q12.1), (0, .ref (g.1 0)), (1, .int v1)]) hx hb dX9_read_39 rfl hl (Nat.le_of_ble_eq_true rfl) rfl (fun ls hl => ?_)
      refine lv_aload_n hx hb dX9_read_40 rfl (lv_at hl 1 rfl) ?_
      obtain ⟨q13, hq13, hF⟩ := bd_ok hF
      refine xX9_changed Z hP hS hq13 wd_12_20 hl.1 (Nat.le_of_ble_eq_true rfl) ⟨Nat.le_of_ble_eq_true rfl, Nat.le_of_ble_eq_true rfl⟩ dX9_read_41 (fun H locs hP hS => ?_)
      refine lv_iload_n hx hb dX9_read_44 rfl (lv_at hl 0 rfl) ?_
      exact ret_IWC Z hr hlk hP hS hF dX9_read_45
    · have hF := (if_neg hc).symm.trans hF
      refine lv_aload_n hx hb dX9_read_23 rfl (lv_at hl 0 rfl) ?_
      refine lv_iconst (v := (1 : Int32)) hx hb dX9_read_24 ic_1 ?_
      obtain ⟨q14, hq14, hF⟩ := bd_ok hF
      refine xX9_finding Z hP hS hq14 wd_19_8 hl.1 (Nat.le_of_ble_eq_true rfl) ⟨Nat.le_of_ble_eq_true rfl, Nat.le_of_ble_eq_true rfl⟩ dX9_read_25 (fun H locs hP hS => ?_)
      exact ret_IWC Z hr hlk hP hS hF dX9_read_28
  · have hF := (if_pos hc).symm.trans hF
    refine lv_bipush (v := (-2 : Int32)) hx hb dX9_read_8 bp_m2 ?_
    exact ret_IWC Z hr hlk hP hS hF dX9_read_10
theorem xX9_read {p : Program} {l : Launch} {e : Env} {R : Room} {s : State} {m : MethodId} {args : Array Value} {below : List Frame} {meth : Method} {c : Code} {H : Heap} {locs : List Loc} {Q : State → Prop} {cc : ByteArray} {nL : Nat} {own : String} {g : GG} {pc index : Nat} {ls : Array Slot} {rest : List Value} {mc mm : Mem} (Z : ZZ p s m args c cc nL own g) (hP : va_P g.2.2.1 vwCl (wL g mc mm) H) (hS : va_S (AA g s.heap.size) s.heap H locs) {v1 : Int32} {q : Int32 × Mem} (hq : F9_read v1 mc = some q) (hlk : Cond.methodLink own index yX9_read ∈ wsL_law) (hsz : ls.size = nL) (hro : (rest.map fun v => v.category).sum ≤ 8) (hR : 3 + 1 ≤ R.frames ∧ 8 + (3 + 11) + 69 ≤ R.locals) (hdg : decode cc pc = .ok (.invokevirtual index, 3)) (kk : ∀ (H : Heap) (locs : List Loc), va_P g.2.2.1 vwCl (wL g q.2 mm) H → va_S (AA g s.heap.size) s.heap H locs → W p l e R s m args below meth c H locs 0 0 Q (F0 m (pc + 3) ls (.int q.1 :: rest))) : W p l e R s m args below meth c H locs 0 0 Q (F0 m pc ls (.int v1 :: .ref (g.1 0) :: rest)) :=
  x_VI Z hP hS (kX9_read l g v1 mc mm q hq) (isO_w ck_0) (ci := 9) (by decide) rfl rfl mf_X9_read mv_X9_read hlk rfl rfl hsz hro hR hdg kk
theorem dX9_refresh_0 : decode cX9_refresh 0 = .ok (.aload_n 0, 1) := by decide +kernel
theorem dX9_refresh_1 : decode cX9_refresh 1 = .ok (.getfield 67, 3) := by decide +kernel
theorem dX9_refresh_4 : decode cX9_refresh 4 = .ok (.ifCond .ne 4, 3) := by decide +kernel
theorem dX9_refresh_7 : decode cX9_refresh 7 = .ok (.return_, 1) := by decide +kernel
theorem dX9_refresh_8 : decode cX9_refresh 8 = .ok (.aload_n 0, 1) := by decide +kernel
theorem dX9_refresh_9 : decode cX9_refresh 9 = .ok (.getfield 56, 3) := by decide +kernel
theorem dX9_refresh_12 : decode cX9_refresh 12 = .ok (.aload_n 0, 1) := by decide +kernel
theorem dX9_refresh_13 : decode cX9_refresh 13 = .ok (.getfield 35, 3) := by decide +kernel
theorem dX9_refresh_16 : decode cX9_refresh 16 = .ok (.iconst (-1), 1) := by decide +kernel
theorem dX9_refresh_17 : decode cX9_refresh 17 = .ok (.invokevirtual 232, 3) := by decide +kernel
theorem dX9_refresh_20 : decode cX9_refresh 20 = .ok (.iconst 0, 1) := by decide +kernel
theorem dX9_refresh_21 : decode cX9_refresh 21 = .ok (.istore_n 1, 1) := by decide +kernel
theorem dX9_refresh_22 : decode cX9_refresh 22 = .ok (.iload_n 1, 1) := by decide +kernel
theorem dX9_refresh_23 : decode cX9_refresh 23 = .ok (.aload_n 0, 1) := by decide +kernel
theorem dX9_refresh_24 : decode cX9_refresh 24 = .ok (.getfield 28, 3) := by decide +kernel
theorem dX9_refresh_27 : decode cX9_refresh 27 = .ok (.getfield 134, 3) := by decide +kernel
theorem dX9_refresh_30 : decode cX9_refresh 30 = .ok (.if_icmp .ge 49, 3) := by decide +kernel
theorem dX9_refresh_33 : decode cX9_refresh 33 = .ok (.aload_n 0, 1) := by decide +kernel
theorem dX9_refresh_34 : decode cX9_refresh 34 = .ok (.getfield 63, 3) := by decide +kernel
theorem dX9_refresh_37 : decode cX9_refresh 37 = .ok (.iload_n 1, 1) := by decide +kernel
theorem dX9_refresh_38 : decode cX9_refresh 38 = .ok (.aaload, 1) := by decide +kernel
theorem dX9_refresh_39 : decode cX9_refresh 39 = .ok (.aload_n 0, 1) := by decide +kernel
theorem dX9_refresh_40 : decode cX9_refresh 40 = .ok (.getfield 21, 3) := by decide +kernel
theorem dX9_refresh_43 : decode cX9_refresh 43 = .ok (.aload_n 0, 1) := by decide +kernel
theorem dX9_refresh_44 : decode cX9_refresh 44 = .ok (.getfield 56, 3) := by decide +kernel
theorem dX9_refresh_47 : decode cX9_refresh 47 = .ok (.aload_n 0, 1) := by decide +kernel
theorem dX9_refresh_48 : decode cX9_refresh 48 = .ok (.getfield 28, 3) := by decide +kernel
theorem dX9_refresh_51 : decode cX9_refresh 51 = .ok (.iload_n 1, 1) := by decide +kernel
theorem dX9_refresh_52 : decode cX9_refresh 52 = .ok (.aload_n 0, 1) := by decide +kernel
theorem dX9_refresh_53 : decode cX9_refresh 53 = .ok (.getfield 28, 3) := by decide +kernel
theorem dX9_refresh_56 : decode cX9_refresh 56 = .ok (.getfield 138, 3) := by decide +kernel
theorem dX9_refresh_59 : decode cX9_refresh 59 = .ok (.iload_n 1, 1) := by decide +kernel
theorem dX9_refresh_60 : decode cX9_refresh 60 = .ok (.iaload, 1) := by decide +kernel
theorem dX9_refresh_61 : decode cX9_refresh 61 = .ok (.aload_n 0, 1) := by decide +kernel
theorem dX9_refresh_62 : decode cX9_refresh 62 = .ok (.getfield 28, 3) := by decide +kernel
theorem dX9_refresh_65 : decode cX9_refresh 65 = .ok (.getfield 141, 3) := by decide +kernel
theorem dX9_refresh_68 : decode cX9_refresh 68 = .ok (.iload_n 1, 1) := by decide +kernel
theorem dX9_refresh_69 : decode cX9_refresh 69 = .ok (.iaload, 1) := by decide +kernel
theorem dX9_refresh_70 : decode cX9_refresh 70 = .ok (.invokevirtual 198, 3) := by decide +kernel
theorem dX9_refresh_73 : decode cX9_refresh 73 = .ok (.iinc 1 1, 3) := by decide +kernel
theorem dX9_refresh_76 : decode cX9_refresh 76 = .ok (.goto (-54), 3) := by decide +kernel
theorem dX9_refresh_79 : decode cX9_refresh 79 = .ok (.aload_n 0, 1) := by decide +kernel
theorem dX9_refresh_80 : decode cX9_refresh 80 = .ok (.iconst 0, 1) := by decide +kernel
theorem dX9_refresh_81 : decode cX9_refresh 81 = .ok (.putfield 67, 3) := by decide +kernel
theorem dX9_refresh_84 : decode cX9_refresh 84 = .ok (.return_, 1) := by decide +kernel
noncomputable def F9_refresh_b79 (M : Mem) : Option (Mem) :=
  some (mset M 0 9 (0 : Int32))
noncomputable def F9_refresh_p22 (kh : Int32 → Mem → Option (Mem)) (kx79 : Mem → Option (Mem)) (a1 : Int32) (M : Mem) : Option (Mem) :=
  (if (M 11 5) ≤ a1 then kx79 M else (ck a1 8 (ck a1 8 (ck a1 8 ((F4_follow (39 + 5 * a1.toNatClampNeg) 6 34 11 a1 (M 13 a1.toNatClampNeg) (M 14 a1.toNatClampNeg) M).bind (fun q9 => (kh (a1 + (1 : Int32)) q9)))))))
noncomputable def F9_refresh_h22 (kx79 : Mem → Option (Mem)) : Nat → Int32 → Mem → Option (Mem)
  | 0, _, _ => none
  | n + 1, a1, M => F9_refresh_p22 (F9_refresh_h22 kx79 n) kx79 a1 M
noncomputable def F9_refresh (mc : Mem) : Option (Mem) :=
  (if (mc 0 9) = (0 : Int32) then some mc else ((F3_fill 34 17 (-1 : Int32) mc).bind (fun q10 => ((F9_refresh_h22 F9_refresh_b79 FU) (0 : Int32) q10))))
set_option maxHeartbeats 4000000 in
set_option maxRecDepth 100000 in
theorem kX9_refresh (l : Launch) (g : GG) (mc mm : Mem) (q : Mem) (hF : F9_refresh mc = some q) : KV l yX9_refresh cX9_refresh 2 2 56 g [.ref (g.1 0)] mc mm (q, mm) := by
  intro sz
  refine x_start (Qc := fun z => QV g z (q, mm)) (by decide +kernel) (Nat.le_of_ble_eq_true rfl) ?_ sz
  intro p e s m args below meth c ls Z hr hlk hP hl
  have hx := Z.1.1
  have hb := Z.1.2.1
  have hown := Z.1.2.2.2.1
  have hts := Z.1.2.2.2.2
  have hS : va_S (AA g s.heap.size) s.heap s.heap [] := va_S.rf
  have hl : lv_has ls 2 [(0, .ref (g.1 0))] := hl
  unfold F9_refresh at hF
  have hb79 : ∀  (M : Mem), F9_refresh_b79 M = some q → ∀ (H : Heap) (locs : List Loc) (ls : Array Slot), lv_has ls 2 [(0, .ref (g.1 0))] → va_P g.2.2.1 vwCl (wL g M mm) H → va_S (AA g s.heap.size) s.heap H locs → W p l e { frames := 2, cells := 0, slots := 0, locals := 56 } s m args below meth c H locs 0 0 (MQ below (QV g s.heap.size (q, mm)) args s 0 0 (AA g s.heap.size)) (F0 m 79 ls []) := by
    intro M hF H locs ls hl hP hS
    unfold F9_refresh_b79 at hF
    refine lv_aload_n hx hb dX9_refresh_79 rfl (lv_at hl 0 rfl) ?_
    refine lv_iconst (v := (0 : Int32)) hx hb dX9_refresh_80 ic_0 ?_
    refine pf9_9 Z hP hS wd_2_20 (Or.inl rfl) dX9_refresh_81 (fun H locs hP hS => ?_)
    exact ret_VWC Z hr hlk hP hS hF dX9_refresh_84
  have hL22 : ∀ (kx79 : Mem → Option (Mem)), (∀  (M : Mem), kx79 M = some q → ∀ (H : Heap) (locs : List Loc) (ls : Array Slot), lv_has ls 2 [(0, .ref (g.1 0))] → va_P g.2.2.1 vwCl (wL g M mm) H → va_S (AA g s.heap.size) s.heap H locs → W p l e { frames := 2, cells := 0, slots := 0, locals := 56 } s m args below meth c H locs 0 0 (MQ below (QV g s.heap.size (q, mm)) args s 0 0 (AA g s.heap.size)) (F0 m 79 ls [])) → ∀ n : Nat, ∀ (a1 : Int32) (M : Mem), F9_refresh_h22 kx79 n a1 M = some q → ∀ (H : Heap) (locs : List Loc) (ls : Array Slot), lv_has ls 2 [(0, .ref (g.1 0)), (1, .int a1)] → va_P g.2.2.1 vwCl (wL g M mm) H → va_S (AA g s.heap.size) s.heap H locs → W p l e { frames := 2, cells := 0, slots := 0, locals := 56 } s m args below meth c H locs 0 0 (MQ below (QV g s.heap.size (q, mm)) args s 0 0 (AA g s.heap.size)) (F0 m 22 ls []) := by
    intro kx79 hx79 n
    induction n with
    | zero => intro a1 M hF H locs ls hl hP hS; exact absurd hF (fun z => nomatch (show (none : Option _) = some q from z))
    | succ n ih =>
      generalize hkh : F9_refresh_h22 kx79 n = kh at ih
      intro a1 M hF H locs ls hl hP hS
      have hF : F9_refresh_p22 (F9_refresh_h22 kx79 n) kx79 a1 M = some q := hF
      rw [hkh] at hF
      unfold F9_refresh_p22 at hF
      refine lv_iload_n hx hb dX9_refresh_22 rfl (lv_at hl 1 rfl) ?_
      refine lv_aload_n hx hb dX9_refresh_23 rfl (lv_at hl 0 rfl) ?_
      refine gf9_2 Z hP wd_1_23 dX9_refresh_24 ?_
      refine gf5_5N Z hP ck_11 nf_7 dX9_refresh_27 ?_
      refine lv_icmp_ge (tgt := 79) hx hb dX9_refresh_30 rfl (fun hc => ?_) (fun hc => ?_)
      · have hF := (if_pos hc).symm.trans hF
        exact hx79 _ hF _ _ _ (lv_sub hl [0] rfl) hP hS
      · have hF := (if_neg hc).symm.trans hF
        refine lv_aload_n hx hb dX9_refresh_33 rfl (lv_at hl 0 rfl) ?_
        refine gf9_8 Z hP wd_2_19 dX9_refresh_34 ?_
        refine lv_iload_n hx hb dX9_refresh_37 rfl (lv_at hl 1 rfl) ?_
        obtain ⟨hi6, hF⟩ := ck_ok hF
        refine rq_24 Z hP hi6 dX9_refresh_38 ?_
        refine lv_aload_n hx hb dX9_refresh_39 rfl (lv_at hl 0 rfl) ?_
        refine gf9_1 Z hP wd_1_19 dX9_refresh_40 ?_
        refine lv_aload_n hx hb dX9_refresh_43 rfl (lv_at hl 0 rfl) ?_
        refine gf9_7 Z hP wd_2_15 dX9_refresh_44 ?_
        refine lv_aload_n hx hb dX9_refresh_47 rfl (lv_at hl 0 rfl) ?_
        refine gf9_2 Z hP wd_1_23 dX9_refresh_48 ?_
        refine lv_iload_n hx hb dX9_refresh_51 rfl (lv_at hl 1 rfl) ?_
        refine lv_aload_n hx hb dX9_refresh_52 rfl (lv_at hl 0 rfl) ?_
        refine gf9_2 Z hP wd_1_23 dX9_refresh_53 ?_
        refine gf5_1N Z hP ck_11 nf_9 dX9_refresh_56 ?_
        refine lv_iload_n hx hb dX9_refresh_59 rfl (lv_at hl 1 rfl) ?_
        obtain ⟨hi7, hF⟩ := ck_ok hF
        refine ra_ld Z hP (ia_5_1 ck_11) hi7 dX9_refresh_60 ?_
        refine lv_aload_n hx hb dX9_refresh_61 rfl (lv_at hl 0 rfl) ?_
        refine gf9_2 Z hP wd_1_23 dX9_refresh_62 ?_
        refine gf5_2N Z hP ck_11 nf_10 dX9_refresh_65 ?_
        refine lv_iload_n hx hb dX9_refresh_68 rfl (lv_at hl 1 rfl) ?_
        obtain ⟨hi8, hF⟩ := ck_ok hF
        refine ra_ld Z hP (ia_5_2 ck_11) hi8 dX9_refresh_69 ?_
        obtain ⟨q9, hq9, hF⟩ := bd_ok hF
        refine xX4_follow Z hP hS (ir_24 hi6) ck_6 ck_34 ck_11 hq9 wd_20_22 hl.1 (Nat.le_of_ble_eq_true rfl) ⟨Nat.le_of_ble_eq_true rfl, Nat.le_of_ble_eq_true rfl⟩ dX9_refresh_70 (fun H locs hP hS => ?_)
        refine lv_iinc (lv' := [(1, .int (a1 + (1 : Int32))), (0, .ref (g.1 0))]) (v := (a1 + (1 : Int32))) hx hb dX9_refresh_73 hl (k := 1) rfl (io_1 _) (Nat.le_of_ble_eq_true rfl) rfl (fun ls hl => ?_)
        refine lv_goto (tgt := 22) hx hb dX9_refresh_76 rfl ?_
        exact ih _ _ hF _ _ _ (lv_sub hl [1, 0] rfl) hP hS
  refine lv_aload_n hx hb dX9_refresh_0 rfl (lv_at hl 0 rfl) ?_
  refine gf9_9 Z hP wd_2_20 dX9_refresh_1 ?_
  refine lv_if_ne (tgt := 8) hx hb dX9_refresh_4 rfl (fun hc => ?_) (fun hc => ?_)
  · have hF := (if_neg hc).symm.trans hF
    refine lv_aload_n hx hb dX9_refresh_8 rfl (lv_at hl 0 rfl) ?_
    refine gf9_7 Z hP wd_2_15 dX9_refresh_9 ?_
    refine lv_aload_n hx hb dX9_refresh_12 rfl (lv_at hl 0 rfl) ?_
    refine gf9_3 Z hP wd_2_3 dX9_refresh_13 ?_
    refine lv_iconst (v := (-1 : Int32)) hx hb dX9_refresh_16 ic_m1 ?_
    obtain ⟨q10, hq10, hF⟩ := bd_ok hF
    refine xX3_fill Z hP hS ck_34 ck_17 hq10 wd_20_14 hl.1 (Nat.le_of_ble_eq_true rfl) ⟨Nat.le_of_ble_eq_true rfl, Nat.le_of_ble_eq_true rfl⟩ dX9_refresh_17 (fun H locs hP hS => ?_)
    refine lv_iconst (v := (0 : Int32)) hx hb dX9_refresh_20 ic_0 ?_
    refine lv_istore_n (lv' := [(1, .int (0 : Int32)), (0, .ref (g.1 0))]) hx hb dX9_refresh_21 rfl hl (Nat.le_of_ble_eq_true rfl) rfl (fun ls hl => ?_)
    exact (hL22 _ hb79 FU) _ _ hF _ _ _ (lv_sub hl [1, 0] rfl) hP hS
  · have hF := (if_pos hc).symm.trans hF
    exact ret_VWC Z hr hlk hP hS hF dX9_refresh_7
theorem xX9_refresh {p : Program} {l : Launch} {e : Env} {R : Room} {s : State} {m : MethodId} {args : Array Value} {below : List Frame} {meth : Method} {c : Code} {H : Heap} {locs : List Loc} {Q : State → Prop} {cc : ByteArray} {nL : Nat} {own : String} {g : GG} {pc index : Nat} {ls : Array Slot} {rest : List Value} {mc mm : Mem} (Z : ZZ p s m args c cc nL own g) (hP : va_P g.2.2.1 vwCl (wL g mc mm) H) (hS : va_S (AA g s.heap.size) s.heap H locs) {q : Mem} (hq : F9_refresh mc = some q) (hlk : Cond.methodLink own index yX9_refresh ∈ wsL_law) (hsz : ls.size = nL) (hro : (rest.map fun v => v.category).sum ≤ 8) (hR : 2 + 1 ≤ R.frames ∧ 8 + (2 + 11) + 56 ≤ R.locals) (hdg : decode cc pc = .ok (.invokevirtual index, 3)) (kk : ∀ (H : Heap) (locs : List Loc), va_P g.2.2.1 vwCl (wL g q mm) H → va_S (AA g s.heap.size) s.heap H locs → W p l e R s m args below meth c H locs 0 0 Q (F0 m (pc + 3) ls (rest))) : W p l e R s m args below meth c H locs 0 0 Q (F0 m pc ls (.ref (g.1 0) :: rest)) :=
  x_VV Z hP hS (kX9_refresh l g mc mm q hq) (isO_w ck_0) (ci := 9) (by decide) rfl rfl mf_X9_refresh mv_X9_refresh hlk rfl rfl hsz hro hR hdg kk
theorem dX9_at_0 : decode cX9_at 0 = .ok (.iload_n 1, 1) := by decide +kernel
theorem dX9_at_1 : decode cX9_at 1 = .ok (.bipush 40, 2) := by decide +kernel
theorem dX9_at_3 : decode cX9_at 3 = .ok (.invokestatic 101, 3) := by decide +kernel
theorem dX9_at_6 : decode cX9_at 6 = .ok (.ifCond .eq 25, 3) := by decide +kernel
theorem dX9_at_9 : decode cX9_at 9 = .ok (.iload_n 2, 1) := by decide +kernel
theorem dX9_at_10 : decode cX9_at 10 = .ok (.aload_n 0, 1) := by decide +kernel
theorem dX9_at_11 : decode cX9_at 11 = .ok (.getfield 28, 3) := by decide +kernel
theorem dX9_at_14 : decode cX9_at 14 = .ok (.getfield 134, 3) := by decide +kernel
theorem dX9_at_17 : decode cX9_at 17 = .ok (.invokestatic 101, 3) := by decide +kernel
theorem dX9_at_20 : decode cX9_at 20 = .ok (.ifCond .eq 11, 3) := by decide +kernel
theorem dX9_at_23 : decode cX9_at 23 = .ok (.iload_n 3, 1) := by decide +kernel
theorem dX9_at_24 : decode cX9_at 24 = .ok (.iconst 5, 1) := by decide +kernel
theorem dX9_at_25 : decode cX9_at 25 = .ok (.invokestatic 101, 3) := by decide +kernel
theorem dX9_at_28 : decode cX9_at 28 = .ok (.ifCond .ne 6, 3) := by decide +kernel
theorem dX9_at_31 : decode cX9_at 31 = .ok (.bipush (-2), 2) := by decide +kernel
theorem dX9_at_33 : decode cX9_at 33 = .ok (.ireturn, 1) := by decide +kernel
theorem dX9_at_34 : decode cX9_at 34 = .ok (.aload_n 0, 1) := by decide +kernel
theorem dX9_at_35 : decode cX9_at 35 = .ok (.invokevirtual 173, 3) := by decide +kernel
theorem dX9_at_38 : decode cX9_at 38 = .ok (.aload_n 0, 1) := by decide +kernel
theorem dX9_at_39 : decode cX9_at 39 = .ok (.getfield 63, 3) := by decide +kernel
theorem dX9_at_42 : decode cX9_at 42 = .ok (.iload_n 2, 1) := by decide +kernel
theorem dX9_at_43 : decode cX9_at 43 = .ok (.aaload, 1) := by decide +kernel
theorem dX9_at_44 : decode cX9_at 44 = .ok (.astore 4, 2) := by decide +kernel
theorem dX9_at_46 : decode cX9_at 46 = .ok (.aload 4, 2) := by decide +kernel
theorem dX9_at_48 : decode cX9_at 48 = .ok (.getfield 176, 3) := by decide +kernel
theorem dX9_at_51 : decode cX9_at 51 = .ok (.iload_n 1, 1) := by decide +kernel
theorem dX9_at_52 : decode cX9_at 52 = .ok (.iaload, 1) := by decide +kernel
theorem dX9_at_53 : decode cX9_at 53 = .ok (.istore 5, 2) := by decide +kernel
theorem dX9_at_55 : decode cX9_at 55 = .ok (.iload_n 3, 1) := by decide +kernel
theorem dX9_at_56 : decode cX9_at 56 = .ok (.tableswitch 98 0 3 #[32, 40, 43, 68], 32) := by decide +kernel
theorem dX9_at_88 : decode cX9_at 88 = .ok (.aload 4, 2) := by decide +kernel
theorem dX9_at_90 : decode cX9_at 90 = .ok (.getfield 179, 3) := by decide +kernel
theorem dX9_at_93 : decode cX9_at 93 = .ok (.iload_n 1, 1) := by decide +kernel
theorem dX9_at_94 : decode cX9_at 94 = .ok (.iaload, 1) := by decide +kernel
theorem dX9_at_95 : decode cX9_at 95 = .ok (.ireturn, 1) := by decide +kernel
theorem dX9_at_96 : decode cX9_at 96 = .ok (.iload 5, 2) := by decide +kernel
theorem dX9_at_98 : decode cX9_at 98 = .ok (.ireturn, 1) := by decide +kernel
theorem dX9_at_99 : decode cX9_at 99 = .ok (.iload 5, 2) := by decide +kernel
theorem dX9_at_101 : decode cX9_at 101 = .ok (.ifCond .ne 7, 3) := by decide +kernel
theorem dX9_at_104 : decode cX9_at 104 = .ok (.iconst (-1), 1) := by decide +kernel
theorem dX9_at_105 : decode cX9_at 105 = .ok (.goto 18, 3) := by decide +kernel
theorem dX9_at_108 : decode cX9_at 108 = .ok (.aload_n 0, 1) := by decide +kernel
theorem dX9_at_109 : decode cX9_at 109 = .ok (.getfield 28, 3) := by decide +kernel
theorem dX9_at_112 : decode cX9_at 112 = .ok (.iload_n 2, 1) := by decide +kernel
theorem dX9_at_113 : decode cX9_at 113 = .ok (.aload 4, 2) := by decide +kernel
theorem dX9_at_115 : decode cX9_at 115 = .ok (.getfield 180, 3) := by decide +kernel
theorem dX9_at_118 : decode cX9_at 118 = .ok (.iload_n 1, 1) := by decide +kernel
theorem dX9_at_119 : decode cX9_at 119 = .ok (.iaload, 1) := by decide +kernel
theorem dX9_at_120 : decode cX9_at 120 = .ok (.invokevirtual 147, 3) := by decide +kernel
theorem dX9_at_123 : decode cX9_at 123 = .ok (.ireturn, 1) := by decide +kernel
theorem dX9_at_124 : decode cX9_at 124 = .ok (.iload 5, 2) := by decide +kernel
theorem dX9_at_126 : decode cX9_at 126 = .ok (.ifCond .ne 7, 3) := by decide +kernel
theorem dX9_at_129 : decode cX9_at 129 = .ok (.iconst (-1), 1) := by decide +kernel
theorem dX9_at_130 : decode cX9_at 130 = .ok (.goto 23, 3) := by decide +kernel
theorem dX9_at_133 : decode cX9_at 133 = .ok (.aload_n 0, 1) := by decide +kernel
theorem dX9_at_134 : decode cX9_at 134 = .ok (.getfield 28, 3) := by decide +kernel
theorem dX9_at_137 : decode cX9_at 137 = .ok (.iload_n 2, 1) := by decide +kernel
theorem dX9_at_138 : decode cX9_at 138 = .ok (.aload 4, 2) := by decide +kernel
theorem dX9_at_140 : decode cX9_at 140 = .ok (.getfield 180, 3) := by decide +kernel
theorem dX9_at_143 : decode cX9_at 143 = .ok (.iload_n 1, 1) := by decide +kernel
theorem dX9_at_144 : decode cX9_at 144 = .ok (.iaload, 1) := by decide +kernel
theorem dX9_at_145 : decode cX9_at 145 = .ok (.iload 5, 2) := by decide +kernel
theorem dX9_at_147 : decode cX9_at 147 = .ok (.iadd, 1) := by decide +kernel
theorem dX9_at_148 : decode cX9_at 148 = .ok (.iconst 1, 1) := by decide +kernel
theorem dX9_at_149 : decode cX9_at 149 = .ok (.isub, 1) := by decide +kernel
theorem dX9_at_150 : decode cX9_at 150 = .ok (.invokevirtual 147, 3) := by decide +kernel
theorem dX9_at_153 : decode cX9_at 153 = .ok (.ireturn, 1) := by decide +kernel
theorem dX9_at_154 : decode cX9_at 154 = .ok (.aload 4, 2) := by decide +kernel
theorem dX9_at_156 : decode cX9_at 156 = .ok (.getfield 183, 3) := by decide +kernel
theorem dX9_at_159 : decode cX9_at 159 = .ok (.iload_n 1, 1) := by decide +kernel
theorem dX9_at_160 : decode cX9_at 160 = .ok (.iaload, 1) := by decide +kernel
theorem dX9_at_161 : decode cX9_at 161 = .ok (.ireturn, 1) := by decide +kernel
noncomputable def F9_at (v1 : Int32) (v2 : Int32) (v3 : Int32) (mc : Mem) : Option (Int32 × Mem) :=
  ((F9_in v1 (40 : Int32)).bind (fun q13 => (if q13 = (0 : Int32) then some ((-2 : Int32), mc) else ((F9_in v2 (mc 11 5)).bind (fun q14 => (if q14 = (0 : Int32) then some ((-2 : Int32), mc) else ((F9_in v3 (5 : Int32)).bind (fun q15 => (if q15 = (0 : Int32) then some ((-2 : Int32), mc) else ((F9_refresh mc).bind (fun q16 => (ck v2 8 (ck v1 40 (if v3 = (0 : Int32) then (ck v1 40 (some ((q16 ((39 + 5 * v2.toNatClampNeg) + 1) v1.toNatClampNeg), q16))) else (if v3 = (1 : Int32) then some ((q16 ((39 + 5 * v2.toNatClampNeg) + 3) v1.toNatClampNeg), q16) else (if v3 = (2 : Int32) then (if (q16 ((39 + 5 * v2.toNatClampNeg) + 3) v1.toNatClampNeg) = (0 : Int32) then some ((-1 : Int32), q16) else (ck v1 40 ((F5_letter 11 v2 (q16 ((39 + 5 * v2.toNatClampNeg) + 2) v1.toNatClampNeg) q16).bind (fun q24 => (some (q24, q16)))))) else (if v3 = (3 : Int32) then (if (q16 ((39 + 5 * v2.toNatClampNeg) + 3) v1.toNatClampNeg) = (0 : Int32) then some ((-1 : Int32), q16) else (ck v1 40 ((F5_letter 11 v2 (((q16 ((39 + 5 * v2.toNatClampNeg) + 2) v1.toNatClampNeg) + (q16 ((39 + 5 * v2.toNatClampNeg) + 3) v1.toNatClampNeg)) - (1 : Int32)) q16).bind (fun q27 => (some (q27, q16)))))) else (ck v1 40 (some ((q16 ((39 + 5 * v2.toNatClampNeg) + 4) v1.toNatClampNeg), q16))))))))))))))))))))
set_option maxHeartbeats 4000000 in
set_option maxRecDepth 100000 in
theorem kX9_at (l : Launch) (g : GG) (v1 : Int32) (v2 : Int32) (v3 : Int32) (mc mm : Mem) (q : Int32 × Mem) (hF : F9_at v1 v2 v3 mc = some q) : KI l yX9_at cX9_at 6 .int 3 77 g [.ref (g.1 0), .int v1, .int v2, .int v3] mc mm q.1 (q.2, mm) := by
  intro sz
  refine x_start (Qc := fun z => QI g z q.1 (q.2, mm)) (by decide +kernel) (Nat.le_of_ble_eq_true rfl) ?_ sz
  intro p e s m args below meth c ls Z hr hlk hP hl
  have hx := Z.1.1
  have hb := Z.1.2.1
  have hown := Z.1.2.2.2.1
  have hts := Z.1.2.2.2.2
  have hS : va_S (AA g s.heap.size) s.heap s.heap [] := va_S.rf
  have hl : lv_has ls 6 [(0, .ref (g.1 0)), (1, .int v1), (2, .int v2), (3, .int v3)] := hl
  unfold F9_at at hF
  refine lv_iload_n hx hb dX9_at_0 rfl (lv_at hl 1 rfl) ?_
  refine lv_bipush (v := (40 : Int32)) hx hb dX9_at_1 bp_40 ?_
  obtain ⟨q13, hq13, hF⟩ := bd_ok hF
  refine xX9_in Z hP hS hq13 wd_7_7 hl.1 (Nat.le_of_ble_eq_true rfl) ⟨Nat.le_of_ble_eq_true rfl, Nat.le_of_ble_eq_true rfl⟩ dX9_at_3 (fun H locs hP hS => ?_)
  refine lv_if_eq (tgt := 31) hx hb dX9_at_6 rfl (fun hc => ?_) (fun hc => ?_)
  · have hF := (if_pos hc).symm.trans hF
    refine lv_bipush (v := (-2 : Int32)) hx hb dX9_at_31 bp_m2 ?_
    exact ret_IWC Z hr hlk hP hS hF dX9_at_33
  · have hF := (if_neg hc).symm.trans hF
    refine lv_iload_n hx hb dX9_at_9 rfl (lv_at hl 2 rfl) ?_
    refine lv_aload_n hx hb dX9_at_10 rfl (lv_at hl 0 rfl) ?_
    refine gf9_2 Z hP wd_1_23 dX9_at_11 ?_
    refine gf5_5N Z hP ck_11 nf_7 dX9_at_14 ?_
    obtain ⟨q14, hq14, hF⟩ := bd_ok hF
    refine xX9_in Z hP hS hq14 wd_7_7 hl.1 (Nat.le_of_ble_eq_true rfl) ⟨Nat.le_of_ble_eq_true rfl, Nat.le_of_ble_eq_true rfl⟩ dX9_at_17 (fun H locs hP hS => ?_)
    refine lv_if_eq (tgt := 31) hx hb dX9_at_20 rfl (fun hc => ?_) (fun hc => ?_)
    · have hF := (if_pos hc).symm.trans hF
      refine lv_bipush (v := (-2 : Int32)) hx hb dX9_at_31 bp_m2 ?_
      exact ret_IWC Z hr hlk hP hS hF dX9_at_33
    · have hF := (if_neg hc).symm.trans hF
      refine lv_iload_n hx hb dX9_at_23 rfl (lv_at hl 3 rfl) ?_
      refine lv_iconst (v := (5 : Int32)) hx hb dX9_at_24 ic_5 ?_
      obtain ⟨q15, hq15, hF⟩ := bd_ok hF
      refine xX9_in Z hP hS hq15 wd_7_7 hl.1 (Nat.le_of_ble_eq_true rfl) ⟨Nat.le_of_ble_eq_true rfl, Nat.le_of_ble_eq_true rfl⟩ dX9_at_25 (fun H locs hP hS => ?_)
      refine lv_if_ne (tgt := 34) hx hb dX9_at_28 rfl (fun hc => ?_) (fun hc => ?_)
      · have hF := (if_neg hc).symm.trans hF
        refine lv_aload_n hx hb dX9_at_34 rfl (lv_at hl 0 rfl) ?_
        obtain ⟨q16, hq16, hF⟩ := bd_ok hF
        refine xX9_refresh Z hP hS hq16 wd_20_10 hl.1 (Nat.le_of_ble_eq_true rfl) ⟨Nat.le_of_ble_eq_true rfl, Nat.le_of_ble_eq_true rfl⟩ dX9_at_35 (fun H locs hP hS => ?_)
        refine lv_aload_n hx hb dX9_at_38 rfl (lv_at hl 0 rfl) ?_
        refine gf9_8 Z hP wd_2_19 dX9_at_39 ?_
        refine lv_iload_n hx hb dX9_at_42 rfl (lv_at hl 2 rfl) ?_
        obtain ⟨hi17, hF⟩ := ck_ok hF
        refine rq_24 Z hP hi17 dX9_at_43 ?_
        refine lv_astore (lv' := [(4, .ref (g.1 (39 + 5 * v2.toNatClampNeg))), (0, .ref (g.1 0)), (1, .int v1), (2, .int v2), (3, .int v3)]) hx hb dX9_at_44 hl (Nat.le_of_ble_eq_true rfl) rfl (fun ls hl => ?_)
        refine lv_aload hx hb dX9_at_46 (lv_at hl 0 rfl) ?_
        refine gf4_2N Z hP (ir_24 hi17) nf_13 dX9_at_48 ?_
        refine lv_iload_n hx hb dX9_at_51 rfl (lv_at hl 2 rfl) ?_
        obtain ⟨hi18, hF⟩ := ck_ok hF
        refine ra_ld Z hP (ia_4_2 (ir_24 hi17)) hi18 dX9_at_52 ?_
        refine lv_istore (lv' := [(5, .int (q16 ((39 + 5 * v2.toNatClampNeg) + 3) v1.toNatClampNeg)), (4, .ref (g.1 (39 + 5 * v2.toNatClampNeg))), (0, .ref (g.1 0)), (1, .int v1), (2, .int v2), (3, .int v3)]) hx hb dX9_at_53 hl (Nat.le_of_ble_eq_true rfl) rfl (fun ls hl => ?_)
        refine lv_iload_n hx hb dX9_at_55 rfl (lv_at hl 5 rfl) ?_
        by_cases hc19 : v3 = (0 : Int32)
        · have hF := (if_pos hc19).symm.trans hF
          refine lv_tableIn (off := 32) (tgt := 88) hx hb dX9_at_56 (by rw [hc19]; decide) (by rw [hc19]; decide) (by rw [hc19]; rfl) rfl ?_
          refine lv_aload hx hb dX9_at_88 (lv_at hl 1 rfl) ?_
          refine gf4_0N Z hP (ir_24 hi17) nf_14 dX9_at_90 ?_
          refine lv_iload_n hx hb dX9_at_93 rfl (lv_at hl 3 rfl) ?_
          obtain ⟨hi20, hF⟩ := ck_ok hF
          refine ra_ld Z hP (ia_4_0 (ir_24 hi17)) hi20 dX9_at_94 ?_
          exact ret_IWC Z hr hlk hP hS hF dX9_at_95
        have hF := (if_neg hc19).symm.trans hF
        by_cases hc21 : v3 = (1 : Int32)
        · have hF := (if_pos hc21).symm.trans hF
          refine lv_tableIn (off := 40) (tgt := 96) hx hb dX9_at_56 (by rw [hc21]; decide) (by rw [hc21]; decide) (by rw [hc21]; rfl) rfl ?_
          refine lv_iload hx hb dX9_at_96 (lv_at hl 0 rfl) ?_
          exact ret_IWC Z hr hlk hP hS hF dX9_at_98
        have hF := (if_neg hc21).symm.trans hF
        by_cases hc22 : v3 = (2 : Int32)
        · have hF := (if_pos hc22).symm.trans hF
          refine lv_tableIn (off := 43) (tgt := 99) hx hb dX9_at_56 (by rw [hc22]; decide) (by rw [hc22]; decide) (by rw [hc22]; rfl) rfl ?_
          refine lv_iload hx hb dX9_at_99 (lv_at hl 0 rfl) ?_
          refine lv_if_ne (tgt := 108) hx hb dX9_at_101 rfl (fun hc => ?_) (fun hc => ?_)
          · have hF := (if_neg hc).symm.trans hF
            refine lv_aload_n hx hb dX9_at_108 rfl (lv_at hl 2 rfl) ?_
            refine gf9_2 Z hP wd_1_23 dX9_at_109 ?_
            refine lv_iload_n hx hb dX9_at_112 rfl (lv_at hl 4 rfl) ?_
            refine lv_aload hx hb dX9_at_113 (lv_at hl 1 rfl) ?_
            refine gf4_1N Z hP (ir_24 hi17) nf_15 dX9_at_115 ?_
            refine lv_iload_n hx hb dX9_at_118 rfl (lv_at hl 3 rfl) ?_
            obtain ⟨hi23, hF⟩ := ck_ok hF
            refine ra_ld Z hP (ia_4_1 (ir_24 hi17)) hi23 dX9_at_119 ?_
            obtain ⟨q24, hq24, hF⟩ := bd_ok hF
            refine xX5_letter Z hP hS ck_11 hq24 wd_16_18 hl.1 (Nat.le_of_ble_eq_true rfl) ⟨Nat.le_of_ble_eq_true rfl, Nat.le_of_ble_eq_true rfl⟩ dX9_at_120 (fun H locs hP hS => ?_)
            exact ret_IWC Z hr hlk hP hS hF dX9_at_123
          · have hF := (if_pos hc).symm.trans hF
            refine lv_iconst (v := (-1 : Int32)) hx hb dX9_at_104 ic_m1 ?_
            refine lv_goto (tgt := 123) hx hb dX9_at_105 rfl ?_
            exact ret_IWC Z hr hlk hP hS hF dX9_at_123
        have hF := (if_neg hc22).symm.trans hF
        by_cases hc25 : v3 = (3 : Int32)
        · have hF := (if_pos hc25).symm.trans hF
          refine lv_tableIn (off := 68) (tgt := 124) hx hb dX9_at_56 (by rw [hc25]; decide) (by rw [hc25]; decide) (by rw [hc25]; rfl) rfl ?_
          refine lv_iload hx hb dX9_at_124 (lv_at hl 0 rfl) ?_
          refine lv_if_ne (tgt := 133) hx hb dX9_at_126 rfl (fun hc => ?_) (fun hc => ?_)
          · have hF := (if_neg hc).symm.trans hF
            refine lv_aload_n hx hb dX9_at_133 rfl (lv_at hl 2 rfl) ?_
            refine gf9_2 Z hP wd_1_23 dX9_at_134 ?_
            refine lv_iload_n hx hb dX9_at_137 rfl (lv_at hl 4 rfl) ?_
            refine lv_aload hx hb dX9_at_138 (lv_at hl 1 rfl) ?_
            refine gf4_1N Z hP (ir_24 hi17) nf_15 dX9_at_140 ?_
            refine lv_iload_n hx hb dX9_at_143 rfl (lv_at hl 3 rfl) ?_
            obtain ⟨hi26, hF⟩ := ck_ok hF
            refine ra_ld Z hP (ia_4_1 (ir_24 hi17)) hi26 dX9_at_144 ?_
            refine lv_iload hx hb dX9_at_145 (lv_at hl 0 rfl) ?_
            refine lv_iadd hx hb dX9_at_147 ?_
            refine lv_iconst (v := (1 : Int32)) hx hb dX9_at_148 ic_1 ?_
            refine lv_isub hx hb dX9_at_149 ?_
            obtain ⟨q27, hq27, hF⟩ := bd_ok hF
            refine xX5_letter Z hP hS ck_11 hq27 wd_16_18 hl.1 (Nat.le_of_ble_eq_true rfl) ⟨Nat.le_of_ble_eq_true rfl, Nat.le_of_ble_eq_true rfl⟩ dX9_at_150 (fun H locs hP hS => ?_)
            exact ret_IWC Z hr hlk hP hS hF dX9_at_153
          · have hF := (if_pos hc).symm.trans hF
            refine lv_iconst (v := (-1 : Int32)) hx hb dX9_at_129 ic_m1 ?_
            refine lv_goto (tgt := 153) hx hb dX9_at_130 rfl ?_
            exact ret_IWC Z hr hlk hP hS hF dX9_at_153
        have hF := (if_neg hc25).symm.trans hF
        refine lv_tableOut (tgt := 154) hx hb dX9_at_56 (sw_4 hc19 hc21 hc22 hc25) rfl ?_
        refine lv_aload hx hb dX9_at_154 (lv_at hl 1 rfl) ?_
        refine gf4_3N Z hP (ir_24 hi17) nf_16 dX9_at_156 ?_
        refine lv_iload_n hx hb dX9_at_159 rfl (lv_at hl 3 rfl) ?_
        obtain ⟨hi28, hF⟩ := ck_ok hF
        refine ra_ld Z hP (ia_4_3 (ir_24 hi17)) hi28 dX9_at_160 ?_
        exact ret_IWC Z hr hlk hP hS hF dX9_at_161
      · have hF := (if_pos hc).symm.trans hF
        refine lv_bipush (v := (-2 : Int32)) hx hb dX9_at_31 bp_m2 ?_
        exact ret_IWC Z hr hlk hP hS hF dX9_at_33
theorem xX9_at {p : Program} {l : Launch} {e : Env} {R : Room} {s : State} {m : MethodId} {args : Array Value} {below : List Frame} {meth : Method} {c : Code} {H : Heap} {locs : List Loc} {Q : State → Prop} {cc : ByteArray} {nL : Nat} {own : String} {g : GG} {pc index : Nat} {ls : Array Slot} {rest : List Value} {mc mm : Mem} (Z : ZZ p s m args c cc nL own g) (hP : va_P g.2.2.1 vwCl (wL g mc mm) H) (hS : va_S (AA g s.heap.size) s.heap H locs) {v1 : Int32} {v2 : Int32} {v3 : Int32} {q : Int32 × Mem} (hq : F9_at v1 v2 v3 mc = some q) (hlk : Cond.methodLink own index yX9_at ∈ wsL_law) (hsz : ls.size = nL) (hro : (rest.map fun v => v.category).sum ≤ 8) (hR : 3 + 1 ≤ R.frames ∧ 8 + (6 + 11) + 77 ≤ R.locals) (hdg : decode cc pc = .ok (.invokevirtual index, 3)) (kk : ∀ (H : Heap) (locs : List Loc), va_P g.2.2.1 vwCl (wL g q.2 mm) H → va_S (AA g s.heap.size) s.heap H locs → W p l e R s m args below meth c H locs 0 0 Q (F0 m (pc + 3) ls (.int q.1 :: rest))) : W p l e R s m args below meth c H locs 0 0 Q (F0 m pc ls (.int v3 :: .int v2 :: .int v1 :: .ref (g.1 0) :: rest)) :=
  x_VI Z hP hS (kX9_at l g v1 v2 v3 mc mm q hq) (isO_w ck_0) (ci := 9) (by decide) rfl rfl mf_X9_at mv_X9_at hlk rfl rfl hsz hro hR hdg kk
theorem dX9_hears_0 : decode cX9_hears 0 = .ok (.iload_n 1, 1) := by decide +kernel
theorem dX9_hears_1 : decode cX9_hears 1 = .ok (.aload_n 0, 1) := by decide +kernel
theorem dX9_hears_2 : decode cX9_hears 2 = .ok (.getfield 21, 3) := by decide +kernel
theorem dX9_hears_5 : decode cX9_hears 5 = .ok (.getfield 119, 3) := by decide +kernel
theorem dX9_hears_8 : decode cX9_hears 8 = .ok (.invokestatic 101, 3) := by decide +kernel
theorem dX9_hears_11 : decode cX9_hears 11 = .ok (.ifCond .ne 6, 3) := by decide +kernel
theorem dX9_hears_14 : decode cX9_hears 14 = .ok (.bipush (-2), 2) := by decide +kernel
theorem dX9_hears_16 : decode cX9_hears 16 = .ok (.ireturn, 1) := by decide +kernel
theorem dX9_hears_17 : decode cX9_hears 17 = .ok (.aload_n 0, 1) := by decide +kernel
theorem dX9_hears_18 : decode cX9_hears 18 = .ok (.invokevirtual 173, 3) := by decide +kernel
theorem dX9_hears_21 : decode cX9_hears 21 = .ok (.iconst 0, 1) := by decide +kernel
theorem dX9_hears_22 : decode cX9_hears 22 = .ok (.istore_n 2, 1) := by decide +kernel
theorem dX9_hears_23 : decode cX9_hears 23 = .ok (.iconst 0, 1) := by decide +kernel
theorem dX9_hears_24 : decode cX9_hears 24 = .ok (.istore_n 3, 1) := by decide +kernel
theorem dX9_hears_25 : decode cX9_hears 25 = .ok (.iload_n 3, 1) := by decide +kernel
theorem dX9_hears_26 : decode cX9_hears 26 = .ok (.aload_n 0, 1) := by decide +kernel
theorem dX9_hears_27 : decode cX9_hears 27 = .ok (.getfield 28, 3) := by decide +kernel
theorem dX9_hears_30 : decode cX9_hears 30 = .ok (.getfield 134, 3) := by decide +kernel
theorem dX9_hears_33 : decode cX9_hears 33 = .ok (.if_icmp .ge 28, 3) := by decide +kernel
theorem dX9_hears_36 : decode cX9_hears 36 = .ok (.aload_n 0, 1) := by decide +kernel
theorem dX9_hears_37 : decode cX9_hears 37 = .ok (.getfield 63, 3) := by decide +kernel
theorem dX9_hears_40 : decode cX9_hears 40 = .ok (.iload_n 3, 1) := by decide +kernel
theorem dX9_hears_41 : decode cX9_hears 41 = .ok (.aaload, 1) := by decide +kernel
theorem dX9_hears_42 : decode cX9_hears 42 = .ok (.iload_n 1, 1) := by decide +kernel
theorem dX9_hears_43 : decode cX9_hears 43 = .ok (.invokevirtual 186, 3) := by decide +kernel
theorem dX9_hears_46 : decode cX9_hears 46 = .ok (.ifCond .eq 9, 3) := by decide +kernel
theorem dX9_hears_49 : decode cX9_hears 49 = .ok (.iload_n 2, 1) := by decide +kernel
theorem dX9_hears_50 : decode cX9_hears 50 = .ok (.iconst 1, 1) := by decide +kernel
theorem dX9_hears_51 : decode cX9_hears 51 = .ok (.iload_n 3, 1) := by decide +kernel
theorem dX9_hears_52 : decode cX9_hears 52 = .ok (.ishl, 1) := by decide +kernel
theorem dX9_hears_53 : decode cX9_hears 53 = .ok (.ior, 1) := by decide +kernel
theorem dX9_hears_54 : decode cX9_hears 54 = .ok (.istore_n 2, 1) := by decide +kernel
theorem dX9_hears_55 : decode cX9_hears 55 = .ok (.iinc 3 1, 3) := by decide +kernel
theorem dX9_hears_58 : decode cX9_hears 58 = .ok (.goto (-33), 3) := by decide +kernel
theorem dX9_hears_61 : decode cX9_hears 61 = .ok (.iload_n 2, 1) := by decide +kernel
theorem dX9_hears_62 : decode cX9_hears 62 = .ok (.ireturn, 1) := by decide +kernel
noncomputable def F9_hears_b55 (kh : Int32 → Int32 → Mem → Option (Int32 × Mem)) (v1 : Int32) (a2 : Int32) (a3 : Int32) (M : Mem) : Option (Int32 × Mem) :=
  kh a2 (a3 + (1 : Int32)) M
noncomputable def F9_hears_p25 (kh : Int32 → Int32 → Mem → Option (Int32 × Mem)) (v1 : Int32) (a2 : Int32) (a3 : Int32) (M : Mem) : Option (Int32 × Mem) :=
  (if (M 11 5) ≤ a3 then some (a2, M) else (ck a3 8 ((F4_isHeardAt (39 + 5 * a3.toNatClampNeg) v1 M).bind (fun q6 => (if q6 = (0 : Int32) then (F9_hears_b55 kh v1) a2 a3 M else (F9_hears_b55 kh v1) (a2 ||| ((1 : Int32) <<< (a3 &&& (31 : Int32)))) a3 M)))))
noncomputable def F9_hears_h25 (v1 : Int32) : Nat → Int32 → Int32 → Mem → Option (Int32 × Mem)
  | 0, _, _, _ => none
  | n + 1, a2, a3, M => F9_hears_p25 (F9_hears_h25 v1 n) v1 a2 a3 M
noncomputable def F9_hears (v1 : Int32) (mc : Mem) : Option (Int32 × Mem) :=
  ((F9_in v1 (mc 6 4)).bind (fun q7 => (if q7 = (0 : Int32) then some ((-2 : Int32), mc) else ((F9_refresh mc).bind (fun q8 => ((F9_hears_h25 v1 FU) (0 : Int32) (0 : Int32) q8))))))
set_option maxHeartbeats 4000000 in
set_option maxRecDepth 100000 in
theorem kX9_hears (l : Launch) (g : GG) (v1 : Int32) (mc mm : Mem) (q : Int32 × Mem) (hF : F9_hears v1 mc = some q) : KI l yX9_hears cX9_hears 4 .int 3 77 g [.ref (g.1 0), .int v1] mc mm q.1 (q.2, mm) := by
  intro sz
  refine x_start (Qc := fun z => QI g z q.1 (q.2, mm)) (by decide +kernel) (Nat.le_of_ble_eq_true rfl) ?_ sz
  intro p e s m args below meth c ls Z hr hlk hP hl
  have hx := Z.1.1
  have hb := Z.1.2.1
  have hown := Z.1.2.2.2.1
  have hts := Z.1.2.2.2.2
  have hS : va_S (AA g s.heap.size) s.heap s.heap [] := va_S.rf
  have hl : lv_has ls 4 [(0, .ref (g.1 0)), (1, .int v1)] := hl
  unfold F9_hears at hF
  have hL25 : ∀ n : Nat, ∀ (a2 : Int32) (a3 : Int32) (M : Mem), F9_hears_h25 v1 n a2 a3 M = some q → ∀ (H : Heap) (locs : List Loc) (ls : Array Slot), lv_has ls 4 [(0, .ref (g.1 0)), (1, .int v1), (2, .int a2), (3, .int a3)] → va_P g.2.2.1 vwCl (wL g M mm) H → va_S (AA g s.heap.size) s.heap H locs → W p l e { frames := 3, cells := 0, slots := 0, locals := 77 } s m args below meth c H locs 0 0 (MQ below (QI g s.heap.size q.1 (q.2, mm)) args s 0 0 (AA g s.heap.size)) (F0 m 25 ls []) := by
    intro n
    induction n with
    | zero => intro a2 a3 M hF H locs ls hl hP hS; exact absurd hF (fun z => nomatch (show (none : Option _) = some q from z))
    | succ n ih =>
      generalize hkh : F9_hears_h25 v1 n = kh at ih
      have hb55 : ∀ (a2 : Int32) (a3 : Int32) (M : Mem), F9_hears_b55 kh v1 a2 a3 M = some q → ∀ (H : Heap) (locs : List Loc) (ls : Array Slot), lv_has ls 4 [(0, .ref (g.1 0)), (1, .int v1), (2, .int a2), (3, .int a3)] → va_P g.2.2.1 vwCl (wL g M mm) H → va_S (AA g s.heap.size) s.heap H locs → W p l e { frames := 3, cells := 0, slots := 0, locals := 77 } s m args below meth c H locs 0 0 (MQ below (QI g s.heap.size q.1 (q.2, mm)) args s 0 0 (AA g s.heap.size)) (F0 m 55 ls []) := by
        intro a2 a3 M hF H locs ls hl hP hS
        unfold F9_hears_b55 at hF
        refine lv_iinc (lv' := [(3, .int (a3 + (1 : Int32))), (0, .ref (g.1 0)), (1, .int v1), (2, .int a2)]) (v := (a3 + (1 : Int32))) hx hb dX9_hears_55 hl (k := 3) rfl (io_1 _) (Nat.le_of_ble_eq_true rfl) rfl (fun ls hl => ?_)
        refine lv_goto (tgt := 25) hx hb dX9_hears_58 rfl ?_
        exact ih _ _ _ hF _ _ _ (lv_sub hl [1, 2, 3, 0] rfl) hP hS
      intro a2 a3 M hF H locs ls hl hP hS
      have hF : F9_hears_p25 (F9_hears_h25 v1 n) v1 a2 a3 M = some q := hF
      rw [hkh] at hF
      unfold F9_hears_p25 at hF
      refine lv_iload_n hx hb dX9_hears_25 rfl (lv_at hl 3 rfl) ?_
      refine lv_aload_n hx hb dX9_hears_26 rfl (lv_at hl 0 rfl) ?_
      refine gf9_2 Z hP wd_1_23 dX9_hears_27 ?_
      refine gf5_5N Z hP ck_11 nf_7 dX9_hears_30 ?_
      refine lv_icmp_ge (tgt := 61) hx hb dX9_hears_33 rfl (fun hc => ?_) (fun hc => ?_)
      · have hF := (if_pos hc).symm.trans hF
        refine lv_iload_n hx hb dX9_hears_61 rfl (lv_at hl 2 rfl) ?_
        exact ret_IWC Z hr hlk hP hS hF dX9_hears_62
      · have hF := (if_neg hc).symm.trans hF
        refine lv_aload_n hx hb dX9_hears_36 rfl (lv_at hl 0 rfl) ?_
        refine gf9_8 Z hP wd_2_19 dX9_hears_37 ?_
        refine lv_iload_n hx hb dX9_hears_40 rfl (lv_at hl 3 rfl) ?_
        obtain ⟨hi5, hF⟩ := ck_ok hF
        refine rq_24 Z hP hi5 dX9_hears_41 ?_
        refine lv_iload_n hx hb dX9_hears_42 rfl (lv_at hl 1 rfl) ?_
        obtain ⟨q6, hq6, hF⟩ := bd_ok hF
        refine xX4_isHeardAt Z hP hS (ir_24 hi5) hq6 wd_24_22 hl.1 (Nat.le_of_ble_eq_true rfl) ⟨Nat.le_of_ble_eq_true rfl, Nat.le_of_ble_eq_true rfl⟩ dX9_hears_43 (fun H locs hP hS => ?_)
        refine lv_if_eq (tgt := 55) hx hb dX9_hears_46 rfl (fun hc => ?_) (fun hc => ?_)
        · have hF := (if_pos hc).symm.trans hF
          exact hb55 _ _ _ hF _ _ _ (lv_sub hl [0, 1, 2, 3] rfl) hP hS
        · have hF := (if_neg hc).symm.trans hF
          refine lv_iload_n hx hb dX9_hears_49 rfl (lv_at hl 2 rfl) ?_
          refine lv_iconst (v := (1 : Int32)) hx hb dX9_hears_50 ic_1 ?_
          refine lv_iload_n hx hb dX9_hears_51 rfl (lv_at hl 3 rfl) ?_
          refine lv_ishl hx hb dX9_hears_52 ?_
          refine lv_ior hx hb dX9_hears_53 ?_
          refine lv_istore_n (lv' := [(2, .int (a2 ||| ((1 : Int32) <<< (a3 &&& (31 : Int32))))), (0, .ref (g.1 0)), (1, .int v1), (3, .int a3)]) hx hb dX9_hears_54 rfl hl (Nat.le_of_ble_eq_true rfl) rfl (fun ls hl => ?_)
          exact hb55 _ _ _ hF _ _ _ (lv_sub hl [1, 2, 0, 3] rfl) hP hS
  refine lv_iload_n hx hb dX9_hears_0 rfl (lv_at hl 1 rfl) ?_
  refine lv_aload_n hx hb dX9_hears_1 rfl (lv_at hl 0 rfl) ?_
  refine gf9_1 Z hP wd_1_19 dX9_hears_2 ?_
  refine gf8_4N Z hP ck_6 nf_2 dX9_hears_5 ?_
  obtain ⟨q7, hq7, hF⟩ := bd_ok hF
  refine xX9_in Z hP hS hq7 wd_7_7 hl.1 (Nat.le_of_ble_eq_true rfl) ⟨Nat.le_of_ble_eq_true rfl, Nat.le_of_ble_eq_true rfl⟩ dX9_hears_8 (fun H locs hP hS => ?_)
  refine lv_if_ne (tgt := 17) hx hb dX9_hears_11 rfl (fun hc => ?_) (fun hc => ?_)
  · have hF := (if_neg hc).symm.trans hF
    refine lv_aload_n hx hb dX9_hears_17 rfl (lv_at hl 0 rfl) ?_
    obtain ⟨q8, hq8, hF⟩ := bd_ok hF
    refine xX9_refresh Z hP hS hq8 wd_20_10 hl.1 (Nat.le_of_ble_eq_true rfl) ⟨Nat.le_of_ble_eq_true rfl, Nat.le_of_ble_eq_true rfl⟩ dX9_hears_18 (fun H locs hP hS => ?_)
    refine lv_iconst (v := (0 : Int32)) hx hb dX9_hears_21 ic_0 ?_
    refine lv_istore_n (lv' := [(2, .int (0 : Int32)), (0, .ref (g.1 0)), (1, .int v1)]) hx hb dX9_hears_22 rfl hl (Nat.le_of_ble_eq_true rfl) rfl (fun ls hl => ?_)
    refine lv_iconst (v := (0 : Int32)) hx hb dX9_hears_23 ic_0 ?_
    refine lv_istore_n (lv' := [(3, .int (0 : Int32)), (2, .int (0 : Int32)), (0, .ref (g.1 0)), (1, .int v1)]) hx hb dX9_hears_24 rfl hl (Nat.le_of_ble_eq_true rfl) rfl (fun ls hl => ?_)
    exact (hL25 FU) _ _ _ hF _ _ _ (lv_sub hl [2, 3, 1, 0] rfl) hP hS
  · have hF := (if_pos hc).symm.trans hF
    refine lv_bipush (v := (-2 : Int32)) hx hb dX9_hears_14 bp_m2 ?_
    exact ret_IWC Z hr hlk hP hS hF dX9_hears_16
theorem xX9_hears {p : Program} {l : Launch} {e : Env} {R : Room} {s : State} {m : MethodId} {args : Array Value} {below : List Frame} {meth : Method} {c : Code} {H : Heap} {locs : List Loc} {Q : State → Prop} {cc : ByteArray} {nL : Nat} {own : String} {g : GG} {pc index : Nat} {ls : Array Slot} {rest : List Value} {mc mm : Mem} (Z : ZZ p s m args c cc nL own g) (hP : va_P g.2.2.1 vwCl (wL g mc mm) H) (hS : va_S (AA g s.heap.size) s.heap H locs) {v1 : Int32} {q : Int32 × Mem} (hq : F9_hears v1 mc = some q) (hlk : Cond.methodLink own index yX9_hears ∈ wsL_law) (hsz : ls.size = nL) (hro : (rest.map fun v => v.category).sum ≤ 8) (hR : 3 + 1 ≤ R.frames ∧ 8 + (4 + 11) + 77 ≤ R.locals) (hdg : decode cc pc = .ok (.invokevirtual index, 3)) (kk : ∀ (H : Heap) (locs : List Loc), va_P g.2.2.1 vwCl (wL g q.2 mm) H → va_S (AA g s.heap.size) s.heap H locs → W p l e R s m args below meth c H locs 0 0 Q (F0 m (pc + 3) ls (.int q.1 :: rest))) : W p l e R s m args below meth c H locs 0 0 Q (F0 m pc ls (.int v1 :: .ref (g.1 0) :: rest)) :=
  x_VI Z hP hS (kX9_hears l g v1 mc mm q hq) (isO_w ck_0) (ci := 9) (by decide) rfl rfl mf_X9_hears mv_X9_hears hlk rfl rfl hsz hro hR hdg kk

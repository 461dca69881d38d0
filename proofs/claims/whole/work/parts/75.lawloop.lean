theorem sw_34 {x : Int32} (h0 : ¬ x = 0) (h1 : ¬ x = 1) (h2 : ¬ x = 2) (h3 : ¬ x = 3) (h4 : ¬ x = 4) (h5 : ¬ x = 5) (h6 : ¬ x = 6) (h7 : ¬ x = 7) (h8 : ¬ x = 8) (h9 : ¬ x = 9) (h10 : ¬ x = 10) (h11 : ¬ x = 11) (h12 : ¬ x = 12) (h13 : ¬ x = 13) (h14 : ¬ x = 14) (h15 : ¬ x = 15) (h16 : ¬ x = 16) (h17 : ¬ x = 17) (h18 : ¬ x = 18) (h19 : ¬ x = 19) (h20 : ¬ x = 20) (h21 : ¬ x = 21) (h22 : ¬ x = 22) (h23 : ¬ x = 23) (h24 : ¬ x = 24) (h25 : ¬ x = 25) (h26 : ¬ x = 26) (h27 : ¬ x = 27) (h28 : ¬ x = 28) (h29 : ¬ x = 29) (h30 : ¬ x = 30) (h31 : ¬ x = 31) (h32 : ¬ x = 32) (h33 : ¬ x = 33) : x.toInt < 0 ∨ 33 < x.toInt := by
  have e0 : ¬ x.toInt = 0 := fun z => h0 (Int32.toInt_inj.mp (z.trans rfl))
  have e1 : ¬ x.toInt = 1 := fun z => h1 (Int32.toInt_inj.mp (z.trans rfl))
  have e2 : ¬ x.toInt = 2 := fun z => h2 (Int32.toInt_inj.mp (z.trans rfl))
  have e3 : ¬ x.toInt = 3 := fun z => h3 (Int32.toInt_inj.mp (z.trans rfl))
  have e4 : ¬ x.toInt = 4 := fun z => h4 (Int32.toInt_inj.mp (z.trans rfl))
  have e5 : ¬ x.toInt = 5 := fun z => h5 (Int32.toInt_inj.mp (z.trans rfl))
  have e6 : ¬ x.toInt = 6 := fun z => h6 (Int32.toInt_inj.mp (z.trans rfl))
  have e7 : ¬ x.toInt = 7 := fun z => h7 (Int32.toInt_inj.mp (z.trans rfl))
  have e8 : ¬ x.toInt = 8 := fun z => h8 (Int32.toInt_inj.mp (z.trans rfl))
  have e9 : ¬ x.toInt = 9 := fun z => h9 (Int32.toInt_inj.mp (z.trans rfl))
  have e10 : ¬ x.toInt = 10 := fun z => h10 (Int32.toInt_inj.mp (z.trans rfl))
  have e11 : ¬ x.toInt = 11 := fun z => h11 (Int32.toInt_inj.mp (z.trans rfl))
  have e12 : ¬ x.toInt = 12 := fun z => h12 (Int32.toInt_inj.mp (z.trans rfl))
  have e13 : ¬ x.toInt = 13 := fun z => h13 (Int32.toInt_inj.mp (z.trans rfl))
  have e14 : ¬ x.toInt = 14 := fun z => h14 (Int32.toInt_inj.mp (z.trans rfl))
  have e15 : ¬ x.toInt = 15 := fun z => h15 (Int32.toInt_inj.mp (z.trans rfl))
  have e16 : ¬ x.toInt = 16 := fun z => h16 (Int32.toInt_inj.mp (z.trans rfl))
  have e17 : ¬ x.toInt = 17 := fun z => h17 (Int32.toInt_inj.mp (z.trans rfl))
  have e18 : ¬ x.toInt = 18 := fun z => h18 (Int32.toInt_inj.mp (z.trans rfl))
  have e19 : ¬ x.toInt = 19 := fun z => h19 (Int32.toInt_inj.mp (z.trans rfl))
  have e20 : ¬ x.toInt = 20 := fun z => h20 (Int32.toInt_inj.mp (z.trans rfl))
  have e21 : ¬ x.toInt = 21 := fun z => h21 (Int32.toInt_inj.mp (z.trans rfl))
  have e22 : ¬ x.toInt = 22 := fun z => h22 (Int32.toInt_inj.mp (z.trans rfl))
  have e23 : ¬ x.toInt = 23 := fun z => h23 (Int32.toInt_inj.mp (z.trans rfl))
  have e24 : ¬ x.toInt = 24 := fun z => h24 (Int32.toInt_inj.mp (z.trans rfl))
  have e25 : ¬ x.toInt = 25 := fun z => h25 (Int32.toInt_inj.mp (z.trans rfl))
  have e26 : ¬ x.toInt = 26 := fun z => h26 (Int32.toInt_inj.mp (z.trans rfl))
  have e27 : ¬ x.toInt = 27 := fun z => h27 (Int32.toInt_inj.mp (z.trans rfl))
  have e28 : ¬ x.toInt = 28 := fun z => h28 (Int32.toInt_inj.mp (z.trans rfl))
  have e29 : ¬ x.toInt = 29 := fun z => h29 (Int32.toInt_inj.mp (z.trans rfl))
  have e30 : ¬ x.toInt = 30 := fun z => h30 (Int32.toInt_inj.mp (z.trans rfl))
  have e31 : ¬ x.toInt = 31 := fun z => h31 (Int32.toInt_inj.mp (z.trans rfl))
  have e32 : ¬ x.toInt = 32 := fun z => h32 (Int32.toInt_inj.mp (z.trans rfl))
  have e33 : ¬ x.toInt = 33 := fun z => h33 (Int32.toInt_inj.mp (z.trans rfl))
  omega
theorem law_head {j L : Nat} (hj : j ≤ 4000) (hL : L ≤ 3072) (h : ¬ Int32.ofNat L - (6 : Int32) < nI j) : j + 6 ≤ L := by
  have h1 : (nI L - nI 6).toInt = (L : Int) - 6 := pk_sub_toInt (by omega) (by omega)
  have h2 : (nI j).toInt = (j : Int) := nI_toInt (by omega)
  rw [show Int32.ofNat L - (6 : Int32) = nI L - nI 6 from rfl, Int32.lt_iff_toInt_lt, h1, h2] at h
  omega
set_option maxHeartbeats 4000000 in
theorem law_loop (Inv : Mem → Mem → Prop) (hs : LSt Inv) {p : Program} {e : Env} {s : State} {m : MethodId} {args : Array Value} {below : List Frame} {meth : Method} {c : Code} {l : Launch} {g : GG} {b L : Nat} {xs : Nat → Int32} {cells slots : Nat} {Q : State → Prop} (Z : LZ p s m args meth c l g b L xs cells slots) (hexit : ∀ (H : Heap) (locs : List Loc) (ls : Array Slot), va_S (AA g s.heap.size) s.heap H locs → W p l e room_1 s m args below meth c H locs cells slots Q (F0 m 1234 ls [])) : ∀ (n j : Nat) (mc mm : Mem) (H : Heap) (locs : List Loc) (ls : Array Slot), L - j < n → j ≤ 3100 → Inv mc mm → lv_has ls 4 [(0, .ref b), (1, .ref (g.1 0)), (2, .ref (g.1 108)), (3, .int (nI j))] → va_P g.2.2.1 vwCl (wL g mc mm) H → va_S (AA g s.heap.size) s.heap H locs → W p l e room_1 s m args below meth c H locs cells slots Q (F0 m 18 ls []) := by
  have hx := Z.1.1.1
  have hb := Z.1.1.2.1
  intro n
  induction n with
  | zero => intro j mc mm H locs ls h; omega
  | succ n ih =>
    intro j mc mm H locs ls hn hj3 hI hl hP hS
    refine lv_iload_n hx hb dL_law_18 rfl (lv_at hl 3 rfl) ?_
    refine lv_aload_n hx hb dL_law_19 rfl (lv_at hl 0 rfl) ?_
    refine va_slen hx hb Z.2.1 Z.2.2.1 Z.2.2.2.1 hS dL_law_20 ?_
    refine lv_bipush (v := (6 : Int32)) hx hb dL_law_21 (by decide) ?_
    refine lv_isub hx hb dL_law_23 ?_
    refine lv_icmp_gt (tgt := 1234) hx hb dL_law_24 rfl (fun _ => hexit H locs ls hS) (fun hc => ?_)
    have hj := law_head (by omega) Z.2.2.2.2.1 hc
    have next : ∀ (mc mm : Mem) (H : Heap) (locs : List Loc), Inv mc mm → va_P g.2.2.1 vwCl (wL g mc mm) H → va_S (AA g s.heap.size) s.heap H locs → W p l e room_1 s m args below meth c H locs cells slots Q (F0 m 1228 ls []) := by
      intro mc mm H locs hI hP hS
      refine lv_iinc (lv' := [(3, .int (nI (j + 6))), (0, .ref b), (1, .ref (g.1 0)), (2, .ref (g.1 108))]) (v := nI (j + 6)) hx hb dL_law_1228 hl (k := 3) rfl (by rw [show Int32.ofInt 6 = nI 6 from by decide, nI_add]) (Nat.le_of_ble_eq_true rfl) rfl (fun ls hl => ?_)
      refine lv_goto (tgt := 18) hx hb dL_law_1231 rfl ?_
      exact ih (j + 6) mc mm H locs ls (by omega) (by have := Z.2.2.2.2.1; omega) hI (lv_sub hl [1, 2, 3, 0] rfl) hP hS
    refine lv_aload_n hx hb dL_law_27 rfl (lv_at hl 0 rfl) ?_
    refine lv_iload_n hx hb dL_law_28 rfl (lv_at hl 3 rfl) ?_
    refine va_sld hx hb Z.2.1 Z.2.2.1 Z.2.2.2.1 hS (law_i0 hj Z.2.2.2.2.1) dL_law_29 ?_
    refine lv_bipush (v := (63 : Int32)) hx hb dL_law_30 (by decide) ?_
    refine lv_iand hx hb dL_law_32 ?_
    refine lv_topi (fun y ey => ?_)
    by_cases hc0 : y = (0 : Int32)
    · refine lv_tableIn (off := 151) (tgt := 184) hx hb dL_law_33 (by rw [hc0]; decide) (by rw [hc0]; decide) (by rw [hc0]; rfl) rfl ?_
      exact lcase_0 Inv (hs.1) Z hI hj hl hP hS next
    by_cases hc1 : y = (1 : Int32)
    · refine lv_tableIn (off := 184) (tgt := 217) hx hb dL_law_33 (by rw [hc1]; decide) (by rw [hc1]; decide) (by rw [hc1]; rfl) rfl ?_
      exact lcase_1 Inv (hs.2.1) Z hI hj hl hP hS next
    by_cases hc2 : y = (2 : Int32)
    · refine lv_tableIn (off := 207) (tgt := 240) hx hb dL_law_33 (by rw [hc2]; decide) (by rw [hc2]; decide) (by rw [hc2]; rfl) rfl ?_
      exact lcase_2 Inv (hs.2.2.1) Z hI hj hl hP hS next
    by_cases hc3 : y = (3 : Int32)
    · refine lv_tableIn (off := 230) (tgt := 263) hx hb dL_law_33 (by rw [hc3]; decide) (by rw [hc3]; decide) (by rw [hc3]; rfl) rfl ?_
      exact lcase_3 Inv (hs.2.2.2.1) Z hI hj hl hP hS next
    by_cases hc4 : y = (4 : Int32)
    · refine lv_tableIn (off := 253) (tgt := 286) hx hb dL_law_33 (by rw [hc4]; decide) (by rw [hc4]; decide) (by rw [hc4]; rfl) rfl ?_
      exact lcase_4 Inv (hs.2.2.2.2.1) Z hI hj hl hP hS next
    by_cases hc5 : y = (5 : Int32)
    · refine lv_tableIn (off := 286) (tgt := 319) hx hb dL_law_33 (by rw [hc5]; decide) (by rw [hc5]; decide) (by rw [hc5]; rfl) rfl ?_
      exact lcase_5 Inv (hs.2.2.2.2.2.1) Z hI hj hl hP hS next
    by_cases hc6 : y = (6 : Int32)
    · refine lv_tableIn (off := 319) (tgt := 352) hx hb dL_law_33 (by rw [hc6]; decide) (by rw [hc6]; decide) (by rw [hc6]; rfl) rfl ?_
      exact lcase_6 Inv (hs.2.2.2.2.2.2.1) Z hI hj hl hP hS next
    by_cases hc7 : y = (7 : Int32)
    · refine lv_tableIn (off := 362) (tgt := 395) hx hb dL_law_33 (by rw [hc7]; decide) (by rw [hc7]; decide) (by rw [hc7]; rfl) rfl ?_
      exact lcase_7 Inv (hs.2.2.2.2.2.2.2.1) Z hI hj hl hP hS next
    by_cases hc8 : y = (8 : Int32)
    · refine lv_tableIn (off := 375) (tgt := 408) hx hb dL_law_33 (by rw [hc8]; decide) (by rw [hc8]; decide) (by rw [hc8]; rfl) rfl ?_
      exact lcase_8 Inv (hs.2.2.2.2.2.2.2.2.1) Z hI hj hl hP hS next
    by_cases hc9 : y = (9 : Int32)
    · refine lv_tableIn (off := 398) (tgt := 431) hx hb dL_law_33 (by rw [hc9]; decide) (by rw [hc9]; decide) (by rw [hc9]; rfl) rfl ?_
      exact lcase_9 Inv (hs.2.2.2.2.2.2.2.2.2.1) Z hI hj hl hP hS next
    by_cases hc10 : y = (10 : Int32)
    · refine lv_tableIn (off := 441) (tgt := 474) hx hb dL_law_33 (by rw [hc10]; decide) (by rw [hc10]; decide) (by rw [hc10]; rfl) rfl ?_
      exact lcase_10 Inv (hs.2.2.2.2.2.2.2.2.2.2.1) Z hI hj hl hP hS next
    by_cases hc11 : y = (11 : Int32)
    · refine lv_tableIn (off := 464) (tgt := 497) hx hb dL_law_33 (by rw [hc11]; decide) (by rw [hc11]; decide) (by rw [hc11]; rfl) rfl ?_
      exact lcase_11 Inv (hs.2.2.2.2.2.2.2.2.2.2.2.1) Z hI hj hl hP hS next
    by_cases hc12 : y = (12 : Int32)
    · refine lv_tableIn (off := 487) (tgt := 520) hx hb dL_law_33 (by rw [hc12]; decide) (by rw [hc12]; decide) (by rw [hc12]; rfl) rfl ?_
      exact lcase_12 Inv (hs.2.2.2.2.2.2.2.2.2.2.2.2.1) Z hI hj hl hP hS next
    by_cases hc13 : y = (13 : Int32)
    · refine lv_tableIn (off := 500) (tgt := 533) hx hb dL_law_33 (by rw [hc13]; decide) (by rw [hc13]; decide) (by rw [hc13]; rfl) rfl ?_
      exact lcase_13 Inv (hs.2.2.2.2.2.2.2.2.2.2.2.2.2.1) Z hI hj hl hP hS next
    by_cases hc14 : y = (14 : Int32)
    · refine lv_tableIn (off := 523) (tgt := 556) hx hb dL_law_33 (by rw [hc14]; decide) (by rw [hc14]; decide) (by rw [hc14]; rfl) rfl ?_
      exact lcase_14 Inv (hs.2.2.2.2.2.2.2.2.2.2.2.2.2.2.1) Z hI hj hl hP hS next
    by_cases hc15 : y = (15 : Int32)
    · refine lv_tableIn (off := 566) (tgt := 599) hx hb dL_law_33 (by rw [hc15]; decide) (by rw [hc15]; decide) (by rw [hc15]; rfl) rfl ?_
      exact lcase_15 Inv (hs.2.2.2.2.2.2.2.2.2.2.2.2.2.2.2.1) Z hI hj hl hP hS next
    by_cases hc16 : y = (16 : Int32)
    · refine lv_tableIn (off := 599) (tgt := 632) hx hb dL_law_33 (by rw [hc16]; decide) (by rw [hc16]; decide) (by rw [hc16]; rfl) rfl ?_
      exact lcase_16 Inv (hs.2.2.2.2.2.2.2.2.2.2.2.2.2.2.2.2.1) Z hI hj hl hP hS next
    by_cases hc17 : y = (17 : Int32)
    · refine lv_tableIn (off := 632) (tgt := 665) hx hb dL_law_33 (by rw [hc17]; decide) (by rw [hc17]; decide) (by rw [hc17]; rfl) rfl ?_
      exact lcase_17 Inv (hs.2.2.2.2.2.2.2.2.2.2.2.2.2.2.2.2.2.1) Z hI hj hl hP hS next
    by_cases hc18 : y = (18 : Int32)
    · refine lv_tableIn (off := 655) (tgt := 688) hx hb dL_law_33 (by rw [hc18]; decide) (by rw [hc18]; decide) (by rw [hc18]; rfl) rfl ?_
      exact lcase_18 Inv (hs.2.2.2.2.2.2.2.2.2.2.2.2.2.2.2.2.2.2.1) Z hI hj hl hP hS next
    by_cases hc19 : y = (19 : Int32)
    · refine lv_tableIn (off := 698) (tgt := 731) hx hb dL_law_33 (by rw [hc19]; decide) (by rw [hc19]; decide) (by rw [hc19]; rfl) rfl ?_
      exact lcase_19 Inv (hs.2.2.2.2.2.2.2.2.2.2.2.2.2.2.2.2.2.2.2.1) Z hI hj hl hP hS next
    by_cases hc20 : y = (20 : Int32)
    · refine lv_tableIn (off := 711) (tgt := 744) hx hb dL_law_33 (by rw [hc20]; decide) (by rw [hc20]; decide) (by rw [hc20]; rfl) rfl ?_
      exact lcase_20 Inv (hs.2.2.2.2.2.2.2.2.2.2.2.2.2.2.2.2.2.2.2.2.1) Z hI hj hl hP hS next
    by_cases hc21 : y = (21 : Int32)
    · refine lv_tableIn (off := 724) (tgt := 757) hx hb dL_law_33 (by rw [hc21]; decide) (by rw [hc21]; decide) (by rw [hc21]; rfl) rfl ?_
      exact lcase_21 Inv (hs.2.2.2.2.2.2.2.2.2.2.2.2.2.2.2.2.2.2.2.2.2.1) Z hI hj hl hP hS next
    by_cases hc22 : y = (22 : Int32)
    · refine lv_tableIn (off := 757) (tgt := 790) hx hb dL_law_33 (by rw [hc22]; decide) (by rw [hc22]; decide) (by rw [hc22]; rfl) rfl ?_
      exact lcase_22 Inv (hs.2.2.2.2.2.2.2.2.2.2.2.2.2.2.2.2.2.2.2.2.2.2.1) Z hI hj hl hP hS next
    by_cases hc23 : y = (23 : Int32)
    · refine lv_tableIn (off := 780) (tgt := 813) hx hb dL_law_33 (by rw [hc23]; decide) (by rw [hc23]; decide) (by rw [hc23]; rfl) rfl ?_
      exact lcase_23 Inv (hs.2.2.2.2.2.2.2.2.2.2.2.2.2.2.2.2.2.2.2.2.2.2.2.1) Z hI hj hl hP hS next
    by_cases hc24 : y = (24 : Int32)
    · refine lv_tableIn (off := 803) (tgt := 836) hx hb dL_law_33 (by rw [hc24]; decide) (by rw [hc24]; decide) (by rw [hc24]; rfl) rfl ?_
      exact lcase_24 Inv (hs.2.2.2.2.2.2.2.2.2.2.2.2.2.2.2.2.2.2.2.2.2.2.2.2.1) Z hI hj hl hP hS next
    by_cases hc25 : y = (25 : Int32)
    · refine lv_tableIn (off := 857) (tgt := 890) hx hb dL_law_33 (by rw [hc25]; decide) (by rw [hc25]; decide) (by rw [hc25]; rfl) rfl ?_
      exact lcase_25 Inv (hs.2.2.2.2.2.2.2.2.2.2.2.2.2.2.2.2.2.2.2.2.2.2.2.2.2.1) Z hI hj hl hP hS next
    by_cases hc26 : y = (26 : Int32)
    · refine lv_tableIn (off := 900) (tgt := 933) hx hb dL_law_33 (by rw [hc26]; decide) (by rw [hc26]; decide) (by rw [hc26]; rfl) rfl ?_
      exact lcase_26 Inv (hs.2.2.2.2.2.2.2.2.2.2.2.2.2.2.2.2.2.2.2.2.2.2.2.2.2.2.1) Z hI hj hl hP hS next
    by_cases hc27 : y = (27 : Int32)
    · refine lv_tableIn (off := 943) (tgt := 976) hx hb dL_law_33 (by rw [hc27]; decide) (by rw [hc27]; decide) (by rw [hc27]; rfl) rfl ?_
      exact lcase_27 Inv (hs.2.2.2.2.2.2.2.2.2.2.2.2.2.2.2.2.2.2.2.2.2.2.2.2.2.2.2.1) Z hI hj hl hP hS next
    by_cases hc28 : y = (28 : Int32)
    · refine lv_tableIn (off := 966) (tgt := 999) hx hb dL_law_33 (by rw [hc28]; decide) (by rw [hc28]; decide) (by rw [hc28]; rfl) rfl ?_
      exact lcase_28 Inv (hs.2.2.2.2.2.2.2.2.2.2.2.2.2.2.2.2.2.2.2.2.2.2.2.2.2.2.2.2.1) Z hI hj hl hP hS next
    by_cases hc29 : y = (29 : Int32)
    · refine lv_tableIn (off := 1019) (tgt := 1052) hx hb dL_law_33 (by rw [hc29]; decide) (by rw [hc29]; decide) (by rw [hc29]; rfl) rfl ?_
      exact lcase_29 Inv (hs.2.2.2.2.2.2.2.2.2.2.2.2.2.2.2.2.2.2.2.2.2.2.2.2.2.2.2.2.2.1) Z hI hj hl hP hS next
    by_cases hc30 : y = (30 : Int32)
    · refine lv_tableIn (off := 1062) (tgt := 1095) hx hb dL_law_33 (by rw [hc30]; decide) (by rw [hc30]; decide) (by rw [hc30]; rfl) rfl ?_
      exact lcase_30 Inv (hs.2.2.2.2.2.2.2.2.2.2.2.2.2.2.2.2.2.2.2.2.2.2.2.2.2.2.2.2.2.2.1) Z hI hj hl hP hS next
    by_cases hc31 : y = (31 : Int32)
    · refine lv_tableIn (off := 1125) (tgt := 1158) hx hb dL_law_33 (by rw [hc31]; decide) (by rw [hc31]; decide) (by rw [hc31]; rfl) rfl ?_
      exact lcase_31 Inv (hs.2.2.2.2.2.2.2.2.2.2.2.2.2.2.2.2.2.2.2.2.2.2.2.2.2.2.2.2.2.2.2.1) Z hI hj hl hP hS next
    by_cases hc32 : y = (32 : Int32)
    · refine lv_tableIn (off := 1158) (tgt := 1191) hx hb dL_law_33 (by rw [hc32]; decide) (by rw [hc32]; decide) (by rw [hc32]; rfl) rfl ?_
      exact lcase_32 Inv (hs.2.2.2.2.2.2.2.2.2.2.2.2.2.2.2.2.2.2.2.2.2.2.2.2.2.2.2.2.2.2.2.2.1) Z hI hj hl hP hS next
    by_cases hc33 : y = (33 : Int32)
    · refine lv_tableIn (off := 1181) (tgt := 1214) hx hb dL_law_33 (by rw [hc33]; decide) (by rw [hc33]; decide) (by rw [hc33]; rfl) rfl ?_
      exact lcase_33 Inv (hs.2.2.2.2.2.2.2.2.2.2.2.2.2.2.2.2.2.2.2.2.2.2.2.2.2.2.2.2.2.2.2.2.2) Z hI hj hl hP hS next
    refine lv_tableOut (tgt := 1228) hx hb dL_law_33 (sw_34 hc0 hc1 hc2 hc3 hc4 hc5 hc6 hc7 hc8 hc9 hc10 hc11 hc12 hc13 hc14 hc15 hc16 hc17 hc18 hc19 hc20 hc21 hc22 hc23 hc24 hc25 hc26 hc27 hc28 hc29 hc30 hc31 hc32 hc33) rfl ?_
    exact next mc mm H locs hI hP hS
def mcL : List (Nat → Int32) := [fun i => if i = 9 then 1 else if i = 17 then 1 else 0, fun _ => 0, fun i => if i = 2 then -1 else 0, fun _ => 0, fun i => if i = 2 then -1 else 0, fun _ => 0, fun i => if i = 5 then -1 else 0, fun _ => 0, fun _ => 0, fun _ => 0, fun _ => 0, fun _ => 0, fun _ => 0, fun _ => 0, fun _ => 0, fun _ => 0, fun _ => 0, fun _ => 0, fun _ => 0, fun _ => 0, fun _ => 0, fun _ => 0, fun _ => 0, fun _ => 0, fun _ => 0, fun _ => 0, fun i => if i = 1 then -1 else 0, fun _ => 0, fun i => if i = 1 then -1 else 0, fun _ => 0, fun i => if i = 1 then -1 else 0, fun _ => 0, fun i => if i = 1 then -1 else 0, fun _ => 0, fun _ => 0, fun _ => 0, fun _ => 0, fun _ => 0, fun _ => 0, fun _ => 0, fun _ => 0, fun _ => 0, fun _ => 0, fun _ => 0, fun _ => 0, fun _ => 0, fun _ => 0, fun _ => 0, fun _ => 0, fun _ => 0, fun _ => 0, fun _ => 0, fun _ => 0, fun _ => 0, fun _ => 0, fun _ => 0, fun _ => 0, fun _ => 0, fun _ => 0, fun _ => 0, fun _ => 0, fun _ => 0, fun _ => 0, fun _ => 0, fun _ => 0, fun _ => 0, fun _ => 0, fun _ => 0, fun _ => 0, fun _ => 0, fun _ => 0, fun _ => 0, fun _ => 0, fun _ => 0, fun _ => 0, fun _ => 0, fun _ => 0, fun _ => 0, fun _ => 0, fun i => if i = 5 then -1 else 0, fun _ => 0, fun _ => 0, fun _ => 0, fun _ => 0, fun _ => 0, fun _ => 0, fun _ => 0, fun _ => 0, fun _ => 0, fun _ => 0, fun _ => 0, fun _ => 0, fun _ => 0, fun _ => 0, fun _ => 0, fun _ => 0, fun _ => 0, fun _ => 0, fun _ => 0, fun _ => 0, fun i => if i = 0 then -1 else if i = 1 then -1 else if i = 2 then -1 else 0, fun i => if i = 0 then -1 else if i = 1 then -1 else if i = 2 then -1 else 0, fun i => if i = 0 then -1 else if i = 1 then -1 else if i = 2 then -1 else 0, fun i => if i = 0 then -1 else if i = 1 then -1 else if i = 2 then -1 else 0, fun i => if i = 0 then -1 else if i = 1 then -1 else if i = 2 then -1 else 0, fun i => if i = 0 then -1 else if i = 1 then -1 else if i = 2 then -1 else 0, fun i => if i = 0 then -1 else if i = 1 then -1 else if i = 2 then -1 else 0, fun i => if i = 0 then -1 else if i = 1 then -1 else if i = 2 then -1 else 0]
def mcI : Mem := fun k => mcL.getD k (fun _ => 0)
def mmL : List (Nat → Int32) := [fun i => if i = 14 then -1 else 0, (upd (upd (upd (upd (fun _ => 0) ((0 : Int32)).toNatClampNeg (-1 : Int32)) ((1 : Int32)).toNatClampNeg (-1 : Int32)) ((2 : Int32)).toNatClampNeg (-1 : Int32)) ((3 : Int32)).toNatClampNeg (-1 : Int32)), fun _ => 0, fun _ => 0, fun _ => 0, fun _ => 0, fun _ => 0, fun _ => 0, fun _ => 0, fun _ => 0, fun _ => 0, fun _ => 0, fun _ => 0, fun _ => 0, fun _ => 0, fun _ => 0, fun _ => 0, fun _ => 0, fun _ => 0, fun _ => 0, fun _ => 0, fun _ => 0, fun _ => 0]
def mmI : Mem := fun j => mmL.getD j (fun _ => 0)
theorem n_fix {g : GG} {ws : va_W} {a i n : Nat} {cA : ClassId} {f : Nat → Option Nat} {H : Heap} {A : Nat → Prop} (f' : Nat → Option Nat) (hP : va_P g.2.2.1 vwCl ws H) (hi : ws[i]? = some (a, .inl (cA, n, .inr (.inr (.inr (.inr f)))))) (hf : ∀ j, j < n → f j = f' j) : va_P g.2.2.1 vwCl (ws.set i (a, .inl (cA, n, .inr (.inr (.inr (.inr f')))))) H := by
  have hl := (List.getElem?_eq_some_iff.mp hi).1
  intro k q hk
  by_cases hki : k = i
  · subst hki
    rw [List.getElem?_set_self hl] at hk
    cases hk
    have h1 := hP k _ hi
    show H[a]? = some (vp_cell cA (n, .inr (.inr (.inr (.inr f')))))
    rw [show H[a]? = some (vp_cell cA (n, .inr (.inr (.inr (.inr f))))) from h1, vp_cell_q, vp_cell_q]
    congr 1
    unfold arrV
    congr 2
    funext j
    show va_rf (f j.val) = va_rf (f' j.val)
    rw [hf j.val j.isLt]
  · rw [List.getElem?_set_ne (Ne.symm hki)] at hk
    exact hP k q hk
theorem wL_ex {g : GG} {mc mm : Mem} {k : Nat} (h : k < 131) : ∃ e, (wL g mc mm)[k]? = some (g.1 k, e) := by
  by_cases hk : k < 108
  · exact ⟨_, wL_C hk⟩
  · obtain ⟨j, rfl⟩ : ∃ j, k = 108 + j := ⟨k - 108, by omega⟩
    exact ⟨_, wL_M j (by omega)⟩

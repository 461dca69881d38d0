set_option maxHeartbeats 40000000 in
set_option maxRecDepth 100000 in
theorem law_walk (Inv : Mem → Mem → Prop) (hI0 : Inv mcI mmI) (hs : LSt Inv) {p : Program} {e : Env} {s : State} {m : MethodId} {below : List Frame} {meth : Method} {c : Code} (l : Launch) {b L : Nat} {xs : Nat → Int32} (hL : L ≤ 3072) (C0 : lw_At p s m meth c b L xs) : W p l e room_1 s m #[Value.ref b] below meth c s.heap [] 0 0 (lw_Z below #[Value.ref b] s) (entryFrame m ([Value.ref b] : List Value).toArray 4) := by
  obtain ⟨g2, hg⟩ := k_start C0
  obtain ⟨hx, hb, hr, hml, hown, hts, hX, hbl, hlk, hgv⟩ := C0
  have htw : ∀ w ∈ wsL_law, w.before #[Value.ref b] s = true := fun w h => hts w (wsL_in w h)
  have hKA : KA ((fun _ => 0), g2) s := (hg _).1
  have hK := hKA.1
  have hA : ∀ q, s.heap.size ≤ q → (fun q => s.heap.size ≤ q) q := fun _ h => h
  have hS : va_S (fun q => s.heap.size ≤ q) s.heap s.heap [] := va_S.rf
  have hP : va_P g2.2.1 vwCl [] s.heap := fun k q h => by simp at h
  have hD : va_D (fun q => s.heap.size ≤ q) [] := ⟨fun i j x y h => by simp at h, fun k q h => by simp at h⟩
  have Zf : CallFix p m c code 4 s #[Value.ref b] wsL_law R_law := ⟨hx, hb, hml, hown, htw⟩
  rw [lg_entry_eq]
  have hl := lv_entry ([.ref b]) (n := 4) (Nat.le_of_ble_eq_true rfl)
  generalize (lg_sl ([.ref b]) ++ List.replicate (4 - (lg_sl ([.ref b])).length) Slot.unset).toArray = ls at hl ⊢
  have hl : lv_has ls 4 [(0, .ref b)] := hl
  refine va_new (D := g2.2.1) (ci := 9) (fs := [.null, .null, .null, .null, .null, .null, .int 0, .null, .null, .int 0, .null, .null, .null, .null, .null, .null, .null, .int 0]) (C := RX9) (T := TX9) (N := 18) hx hb htw inlX9 tyX9 tyX9_ok hown (htw _ wd_1_0) (htw _ wd_1_1) (htw _ wd_1_2) hK.1 hP hD hS hA rfl (fun j hj => by rcases (show j = 0 ∨ j = 1 ∨ j = 2 ∨ j = 3 ∨ j = 4 ∨ j = 5 ∨ j = 6 ∨ j = 7 ∨ j = 8 ∨ j = 9 ∨ j = 10 ∨ j = 11 ∨ j = 12 ∨ j = 13 ∨ j = 14 ∨ j = 15 ∨ j = 16 ∨ j = 17 by omega) with rfl | rfl | rfl | rfl | rfl | rfl | rfl | rfl | rfl | rfl | rfl | rfl | rfl | rfl | rfl | rfl | rfl | rfl <;> rfl) (Nat.le_of_ble_eq_true rfl) (Nat.le_of_ble_eq_true rfl) dL_law_0 (fun h0 H hP hD hS => ?_)
  refine W.widen (k := 1) (n := 18) (Nat.le_of_ble_eq_true rfl) (Nat.le_of_ble_eq_true rfl) ?_
  refine lv_dup hx hb dL_law_3 rfl ?_
  refine n_callI (g := ((fun _ => 0), g2)) (rest := [.ref h0]) Zf hKA _ hP hD hS hA (kX9_init l ((fun _ => 0), g2) h0) mf_X9_init rfl wd_1_7 wd_1_6 rfl rfl hl.1 (Nat.le_of_ble_eq_true rfl) ⟨Nat.le_of_ble_eq_true rfl, Nat.le_of_ble_eq_true rfl⟩ dL_law_4 ⟨Nat.le_of_ble_eq_true rfl, Nat.le_of_ble_eq_true rfl⟩ (fun w1 H locs hG hP hD hS => ?_)
  have hG9 := hG
  refine W.widen (k := 108) (n := 2823) (Nat.le_of_ble_eq_true rfl) (Nat.le_of_ble_eq_true rfl) ?_
  refine lv_astore_n (lv' := [(1, .ref h0), (0, .ref b)]) hx hb dL_law_7 rfl hl (Nat.le_of_ble_eq_true rfl) rfl (fun ls hl => ?_)
  refine va_new (D := g2.2.1) (ci := 10) (fs := [.null, .null, .null, .null, .int 0, .null, .null, .int 0, .null, .int 0, .null, .int 0, .null, .int 0, .int 0, .int 0, .null, .null, .null, .null, .null, .null, .null, .null, .null, .null, .int 0, .null, .null, .int 0, .null]) (C := RX10) (T := TX10) (N := 31) hx hb htw inlX10 tyX10 tyX10_ok hown (htw _ wd_1_3) (htw _ wd_1_4) (htw _ wd_1_5) hK.1 hP hD hS hA rfl (fun j hj => by rcases (show j = 0 ∨ j = 1 ∨ j = 2 ∨ j = 3 ∨ j = 4 ∨ j = 5 ∨ j = 6 ∨ j = 7 ∨ j = 8 ∨ j = 9 ∨ j = 10 ∨ j = 11 ∨ j = 12 ∨ j = 13 ∨ j = 14 ∨ j = 15 ∨ j = 16 ∨ j = 17 ∨ j = 18 ∨ j = 19 ∨ j = 20 ∨ j = 21 ∨ j = 22 ∨ j = 23 ∨ j = 24 ∨ j = 25 ∨ j = 26 ∨ j = 27 ∨ j = 28 ∨ j = 29 ∨ j = 30 by omega) with rfl | rfl | rfl | rfl | rfl | rfl | rfl | rfl | rfl | rfl | rfl | rfl | rfl | rfl | rfl | rfl | rfl | rfl | rfl | rfl | rfl | rfl | rfl | rfl | rfl | rfl | rfl | rfl | rfl | rfl | rfl <;> rfl) (Nat.le_of_ble_eq_true rfl) (Nat.le_of_ble_eq_true rfl) dL_law_8 (fun h1 H hP hD hS => ?_)
  refine W.widen (k := 109) (n := 2854) (Nat.le_of_ble_eq_true rfl) (Nat.le_of_ble_eq_true rfl) ?_
  refine lv_dup hx hb dL_law_11 rfl ?_
  refine n_callI (g := ((fun _ => 0), g2)) (rest := [.ref h1]) Zf hKA _ hP hD hS hA (kX10_init l ((fun _ => 0), g2) h1) mf_X10_init rfl wd_6_1 wd_6_0 rfl rfl hl.1 (Nat.le_of_ble_eq_true rfl) ⟨Nat.le_of_ble_eq_true rfl, Nat.le_of_ble_eq_true rfl⟩ dL_law_12 ⟨Nat.le_of_ble_eq_true rfl, Nat.le_of_ble_eq_true rfl⟩ (fun w1 H locs hG hP hD hS => ?_)
  have hG10 := hG
  refine W.widen (k := 131) (n := 5172) (Nat.le_of_ble_eq_true rfl) (Nat.le_of_ble_eq_true rfl) ?_
  refine lv_astore_n (lv' := [(2, .ref h1), (1, .ref h0), (0, .ref b)]) hx hb dL_law_15 rfl hl (Nat.le_of_ble_eq_true rfl) rfl (fun ls hl => ?_)
  refine lv_iconst (v := nI 0) hx hb dL_law_16 (by decide) ?_
  refine lv_istore_n (lv' := [(3, .int (nI 0)), (2, .ref h1), (1, .ref h0), (0, .ref b)]) hx hb dL_law_17 rfl hl (Nat.le_of_ble_eq_true rfl) rfl (fun ls hl => ?_)
  obtain ⟨g, hg2, hga, hgb, hPg, hD⟩ := law_mem g2 h0 h1 hG9 hG10 hP hD
  have hgl : lv_has ls 4 [(0, .ref b), (1, .ref (g.1 0)), (2, .ref (g.1 108)), (3, .int (nI 0))] := by rw [hga, hgb]; exact lv_sub hl [3, 2, 1, 0] rfl
  have hgg : g = (g.1, g2) := by rw [← hg2]
  have hKg : KA g s := by rw [hgg]; exact (hg _).1
  have hSg : SS g (fun q => s.heap.size ≤ q) s s.heap := by rw [hgg]; exact (hg _).2
  have hge : ∀ k, k < 131 → s.heap.size ≤ g.1 k := fun k hk => by
    obtain ⟨e1, he⟩ := wL_ex (g := g) (mc := mcI) (mm := mmI) hk
    exact hD.2 k _ he
  have hinj : inj g := fun i j hi hj h => by
    obtain ⟨e1, he1⟩ := wL_ex (g := g) (mc := mcI) (mm := mmI) hi
    obtain ⟨e2, he2⟩ := wL_ex (g := g) (mc := mcI) (mm := mmI) hj
    exact hD.1 i j _ _ he1 he2 h
  have hAA : ∀ q, AA g s.heap.size q → s.heap.size ≤ q := by
    intro q h
    rcases h with ⟨k, hk, rfl⟩ | h
    · exact hge k hk
    · exact h
  have hSA : va_S (AA g s.heap.size) s.heap H locs := ⟨hS.1, fun q h1 h2 => hS.2.1 q h1 (fun z => absurd h1 (Nat.not_lt.mpr z)), fun q h => Or.inr (hS.2.2 q h)⟩
  have Z : LZ p s m #[Value.ref b] meth c l g b L xs 131 5172 := ⟨⟨Zf, hKg.1, hinj, hSg.1.narrow hAA, hSg.2.narrow hAA⟩, hX, hbl, fun z => absurd hbl (Nat.not_lt.mpr (hAA b z)), hL, Nat.le_of_ble_eq_true rfl, Nat.le_of_ble_eq_true rfl⟩
  refine law_loop Inv hs Z (fun H locs ls hS => ?_) (L + 1) 0 mcI mmI H locs ls (by omega) (by omega) hI0 hgl hPg hSA
  refine lv_iconst (v := 1) hx hb dL_law_1234 (by decide) ?_
  refine va_forget (fun q h => hAA q.base (hS.2.2 q h)) ?_
  refine W.widen (k := 600000) (n := 7302250) (Nat.le_of_ble_eq_true rfl) (Nat.le_of_ble_eq_true rfl) ?_
  exact lw_ret hx hb hr hlk dL_law_1235

def adOf (qs rs : Nat → Nat) : Nat → Nat := fun k => if k < 108 then qs k else rs (k - 108)
set_option maxRecDepth 100000 in
set_option maxHeartbeats 40000000 in
theorem wL_9 (g2 : (Nat → ClassId) × va_G × (Nat → Nat) × (Nat → Nat)) (qs rs : Nat → Nat) : (List.range 108).map (fun k => ((adOf qs rs) k, wE (adOf qs rs, g2) k (mcI k))) = L9 ((fun _ => 0), g2) qs (fun i => some (adOf qs rs (2 + 2 * i))) (fun i => some (adOf qs rs (26 + 2 * i))) (fun i => some (adOf qs rs (39 + 5 * i))) (fun i => some (adOf qs rs (100 + 1 * i))) := rfl
set_option maxRecDepth 100000 in
set_option maxHeartbeats 40000000 in
theorem wL_10 (g2 : (Nat → ClassId) × va_G × (Nat → Nat) × (Nat → Nat)) (qs rs : Nat → Nat) : (List.range 23).map (fun j => ((adOf qs rs) (108 + j), wE (adOf qs rs, g2) (108 + j) (mmI j))) = L10 ((fun _ => 0), g2) rs := rfl
theorem wL_910 (g2 : (Nat → ClassId) × va_G × (Nat → Nat) × (Nat → Nat)) (qs rs : Nat → Nat) : wL (adOf qs rs, g2) mcI mmI = L9 ((fun _ => 0), g2) qs (fun i => some (adOf qs rs (2 + 2 * i))) (fun i => some (adOf qs rs (26 + 2 * i))) (fun i => some (adOf qs rs (39 + 5 * i))) (fun i => some (adOf qs rs (100 + 1 * i))) ++ L10 ((fun _ => 0), g2) rs := by
  rw [← wL_9, ← wL_10]
  rfl
set_option maxRecDepth 100000 in
theorem l9_set1 (g2 : (Nat → ClassId) × va_G × (Nat → Nat) × (Nat → Nat)) (qs : Nat → Nat) (f1 f2 f3 f4 f' : Nat → Option Nat) (w : va_W) : (L9 ((fun _ => 0), g2) qs f1 f2 f3 f4 ++ w).set 1 (qs 1, .inl (g2.1 2, 2, .inr (.inr (.inr (.inr f'))))) = L9 ((fun _ => 0), g2) qs f' f2 f3 f4 ++ w := rfl
set_option maxRecDepth 100000 in
theorem l9_at1 (g2 : (Nat → ClassId) × va_G × (Nat → Nat) × (Nat → Nat)) (qs : Nat → Nat) (f1 f2 f3 f4 : Nat → Option Nat) (w : va_W) : (L9 ((fun _ => 0), g2) qs f1 f2 f3 f4 ++ w)[1]? = some (qs 1, .inl (g2.1 2, 2, .inr (.inr (.inr (.inr f1))))) := rfl
set_option maxRecDepth 100000 in
theorem l9_set2 (g2 : (Nat → ClassId) × va_G × (Nat → Nat) × (Nat → Nat)) (qs : Nat → Nat) (f1 f2 f3 f4 f' : Nat → Option Nat) (w : va_W) : (L9 ((fun _ => 0), g2) qs f1 f2 f3 f4 ++ w).set 25 (qs 25, .inl (g2.1 3, 4, .inr (.inr (.inr (.inr f'))))) = L9 ((fun _ => 0), g2) qs f1 f' f3 f4 ++ w := rfl
set_option maxRecDepth 100000 in
theorem l9_at2 (g2 : (Nat → ClassId) × va_G × (Nat → Nat) × (Nat → Nat)) (qs : Nat → Nat) (f1 f2 f3 f4 : Nat → Option Nat) (w : va_W) : (L9 ((fun _ => 0), g2) qs f1 f2 f3 f4 ++ w)[25]? = some (qs 25, .inl (g2.1 3, 4, .inr (.inr (.inr (.inr f2))))) := rfl
set_option maxRecDepth 100000 in
theorem l9_set3 (g2 : (Nat → ClassId) × va_G × (Nat → Nat) × (Nat → Nat)) (qs : Nat → Nat) (f1 f2 f3 f4 f' : Nat → Option Nat) (w : va_W) : (L9 ((fun _ => 0), g2) qs f1 f2 f3 f4 ++ w).set 38 (qs 38, .inl (g2.1 4, 8, .inr (.inr (.inr (.inr f'))))) = L9 ((fun _ => 0), g2) qs f1 f2 f' f4 ++ w := rfl
set_option maxRecDepth 100000 in
theorem l9_at3 (g2 : (Nat → ClassId) × va_G × (Nat → Nat) × (Nat → Nat)) (qs : Nat → Nat) (f1 f2 f3 f4 : Nat → Option Nat) (w : va_W) : (L9 ((fun _ => 0), g2) qs f1 f2 f3 f4 ++ w)[38]? = some (qs 38, .inl (g2.1 4, 8, .inr (.inr (.inr (.inr f3))))) := rfl
set_option maxRecDepth 100000 in
theorem l9_set4 (g2 : (Nat → ClassId) × va_G × (Nat → Nat) × (Nat → Nat)) (qs : Nat → Nat) (f1 f2 f3 f4 f' : Nat → Option Nat) (w : va_W) : (L9 ((fun _ => 0), g2) qs f1 f2 f3 f4 ++ w).set 99 (qs 99, .inl (g2.1 5, 8, .inr (.inr (.inr (.inr f'))))) = L9 ((fun _ => 0), g2) qs f1 f2 f3 f' ++ w := rfl
set_option maxRecDepth 100000 in
theorem l9_at4 (g2 : (Nat → ClassId) × va_G × (Nat → Nat) × (Nat → Nat)) (qs : Nat → Nat) (f1 f2 f3 f4 : Nat → Option Nat) (w : va_W) : (L9 ((fun _ => 0), g2) qs f1 f2 f3 f4 ++ w)[99]? = some (qs 99, .inl (g2.1 5, 8, .inr (.inr (.inr (.inr f4))))) := rfl
set_option maxRecDepth 100000 in
set_option maxHeartbeats 40000000 in
theorem law_mem (g2 : (Nat → ClassId) × va_G × (Nat → Nat) × (Nat → Nat)) (h0 h1 : Nat) {w9 w10 : va_W} (hG9 : G9 ((fun _ => 0), g2) h0 w9) (hG10 : G10 ((fun _ => 0), g2) h1 w10) {H : Heap} {A : Nat → Prop} (hP : va_P g2.2.1 vwCl (w9 ++ w10) H) (hD : va_D A (w9 ++ w10)) : ∃ g : GG, g.2 = g2 ∧ g.1 0 = h0 ∧ g.1 108 = h1 ∧ va_P g.2.2.1 vwCl (wL g mcI mmI) H ∧ va_D A (wL g mcI mmI) := by
  obtain ⟨qs, rfl, rfl⟩ := hG9
  obtain ⟨rs, rfl, rfl⟩ := hG10
  refine ⟨(adOf qs rs, g2), rfl, rfl, rfl, ?_⟩
  rw [wL_910]
  replace hD := hD.set (e := .inl (g2.1 2, 2, .inr (.inr (.inr (.inr (fun i => some (adOf qs rs (2 + 2 * i)))))))) (l9_at1 _ _ _ _ _ _ _)
  replace hP := n_fix (g := ((fun _ => 0), g2)) (A := fun _ => True) (i := 1) (fun i => some (adOf qs rs (2 + 2 * i))) hP (l9_at1 _ _ _ _ _ _ _) (fun j hj => by rcases (show j = 0 ∨ j = 1 by omega) with rfl | rfl <;> rfl)
  rw [l9_set1] at hD hP
  replace hD := hD.set (e := .inl (g2.1 3, 4, .inr (.inr (.inr (.inr (fun i => some (adOf qs rs (26 + 2 * i)))))))) (l9_at2 _ _ _ _ _ _ _)
  replace hP := n_fix (g := ((fun _ => 0), g2)) (A := fun _ => True) (i := 25) (fun i => some (adOf qs rs (26 + 2 * i))) hP (l9_at2 _ _ _ _ _ _ _) (fun j hj => by rcases (show j = 0 ∨ j = 1 ∨ j = 2 ∨ j = 3 by omega) with rfl | rfl | rfl | rfl <;> rfl)
  rw [l9_set2] at hD hP
  replace hD := hD.set (e := .inl (g2.1 4, 8, .inr (.inr (.inr (.inr (fun i => some (adOf qs rs (39 + 5 * i)))))))) (l9_at3 _ _ _ _ _ _ _)
  replace hP := n_fix (g := ((fun _ => 0), g2)) (A := fun _ => True) (i := 38) (fun i => some (adOf qs rs (39 + 5 * i))) hP (l9_at3 _ _ _ _ _ _ _) (fun j hj => by rcases (show j = 0 ∨ j = 1 ∨ j = 2 ∨ j = 3 ∨ j = 4 ∨ j = 5 ∨ j = 6 ∨ j = 7 by omega) with rfl | rfl | rfl | rfl | rfl | rfl | rfl | rfl <;> rfl)
  rw [l9_set3] at hD hP
  replace hD := hD.set (e := .inl (g2.1 5, 8, .inr (.inr (.inr (.inr (fun i => some (adOf qs rs (100 + 1 * i)))))))) (l9_at4 _ _ _ _ _ _ _)
  replace hP := n_fix (g := ((fun _ => 0), g2)) (A := fun _ => True) (i := 99) (fun i => some (adOf qs rs (100 + 1 * i))) hP (l9_at4 _ _ _ _ _ _ _) (fun j hj => by rcases (show j = 0 ∨ j = 1 ∨ j = 2 ∨ j = 3 ∨ j = 4 ∨ j = 5 ∨ j = 6 ∨ j = 7 by omega) with rfl | rfl | rfl | rfl | rfl | rfl | rfl | rfl <;> rfl)
  rw [l9_set4] at hD hP
  exact ⟨hP, hD⟩

/-! the reference: one hour of one saying -/
/-- the reference's hours, told plainly: covered, coin, drought -/
def MH (mm : Mem) (H : KH) : Prop := ∃ (E : EV) (ne : Nat) (on : Nat → Bool) (od : Nat → Nat → Bool), ME mm E ne on ∧ (∀ h k, h < 40 → k < 8 → (od h k = true ↔ (mm 0 14 = nI h ∧ mm 0 15 = nI k))) ∧ H = (covS E ne on, fun h k => od h k || coinS E ne on h k, dryS E ne on)
theorem MH.congr {mm mm' : Mem} {H : KH} (M : MH mm H) (h0 : mm' 0 11 = mm 0 11) (h1 : mm' 0 13 = mm 0 13) (h2 : mm' 0 14 = mm 0 14) (h3 : mm' 0 15 = mm 0 15) (h9 : mm' 9 = mm 9) : MH mm' H := by
  obtain ⟨E, ne, on, od, a, b, c⟩ := M
  exact ⟨E, ne, on, od, a.congr h0 h1 h9, by rw [h2, h3]; exact b, c⟩
theorem mh_cov {mm : Mem} {H : KH} (M : MH mm H) {h k : Nat} (hh : h < 40) (hk : k < 8) : F10_isCovered (nI h) (nI k) mm = some (b2i (H.1 h k)) := by
  obtain ⟨E, ne, on, od, a, b, rfl⟩ := M
  exact f10_covered a (by omega) (by omega)
theorem mh_coin {mm : Mem} {H : KH} (M : MH mm H) {h k : Nat} (hh : h < 40) (hk : k < 8) : F10_isCoin (nI h) (nI k) mm = some (b2i (H.2.1 h k)) := by
  obtain ⟨E, ne, on, od, a, b, rfl⟩ := M
  exact f10_coin a (by omega) (by omega) (od h k) (b h k hh hk)
theorem mh_dry {mm : Mem} {H : KH} (M : MH mm H) {h : Nat} (hh : h < 40) : F10_isDrought (nI h) mm = some (b2i (H.2.2 h)) := by
  obtain ⟨E, ne, on, od, a, b, rfl⟩ := M
  exact f10_drought a (by omega)
theorem goes_loop {mm : Mem} {W : KW} {H : KH} (M : MW mm W.1 W.2.1 W.2.2) (G : MH mm H) {p h : Nat} (hh : h < 40) (kx : Int32 → Mem → Option (Int32 × Mem)) (up : Bool) : ∀ (n : Nat) (x : Option Nat), 0 < n → (∀ k, x = some k → k < W.1 ∧ rkW W up k + 1 < n) → F10_goes_h40 kx (nI h) (nI p) n (b2i up) (en x) mm = kx (en (skp (goW W up) (H.1 h) n x)) mm := by
  intro n
  induction n with
  | zero => intro x h0; omega
  | succ n ih =>
    intro x _ hx
    show F10_goes_p40 _ _ _ _ _ _ _ = _
    unfold F10_goes_p40
    cases x with
    | none => rw [if_pos (show en none = -1 from rfl), skp_none]
    | some k =>
      obtain ⟨k1, k2⟩ := hx k rfl
      have h8 := M.1
      rw [if_neg (show ¬ en (some k) = -1 from nI_ne1 (by omega))]
      rw [show en (some k) = nI k from rfl, mh_cov G hh (show k < 8 by omega)]
      unfold skp
      cases hc : H.1 h k with
      | false => rw [if_neg (by decide)]; rfl
      | true =>
        rw [if_pos rfl]
        show (F10_next (nI k) (b2i up) mm).bind _ = _
        rw [f10_next M k1 up]
        show F10_goes_h40 kx (nI h) (nI p) n (b2i up) (en (goW W up k)) mm = _
        refine ih _ (by omega) (fun j hj => ?_)
        exact ⟨goW_lt hj, by have := goW_rk hj; omega⟩
theorem f10_goes {mm : Mem} {W : KW} {H : KH} (M : MW mm W.1 W.2.1 W.2.2) (G : MH mm H) {p h k : Nat} {S : KS} {X : ST} (hp : p < 8) (hh : h < 40) (P : SP mm p S) (Y : SX mm p X) (O : XO W.1 h X) (hX : X.1 = some k) : ∃ mm', F10_goes (nI h) (nI p) mm = some (b2i (goesS W H (S.2.2.1 == 1) h k X).2, mm') ∧ Fr p mm mm' ∧ SX mm' p (goesS W H (S.2.2.1 == 1) h k X).1 := by
  have h8 := M.1
  obtain ⟨k1, k2⟩ := O.1 k hX
  have y1 : mm 10 p = nI k := by rw [Y.1, hX]; rfl
  unfold F10_goes
  simp only [ckI hp (by decide), nI_clamp (show p < 2 ^ 31 by omega), y1]
  rw [mh_coin G hh (by omega)]
  show ∃ mm', (F10_next (nI k) (b2i (H.2.1 h k)) mm).bind _ = _ ∧ _
  rw [f10_next M k1, show (if H.2.1 h k = true then upS W.2.2 k W.1 else dnS W.2.2 k W.1) = goW W (H.2.1 h k) k from rfl]
  simp only [Option.bind_some]
  unfold goesS
  generalize H.2.1 h k = up
  cases hg : goW W up k with
  | none =>
    rw [if_pos (show en none = -1 from rfl)]
    refine ⟨_, rfl, (Fr.refl p mm).set _ (by decide) (by decide), ?_⟩
    obtain ⟨q1, q2, q3, q4, q5, q6⟩ := Y
    refine ⟨?_, fun j _ => ?_, ?_, ?_, ?_, ?_⟩
    · rw [mset_n (by decide)]; exact y1
    · rw [mset_s]
    · rw [mset_n (by decide)]; exact q3
    · rw [mset_n (by decide)]; exact q4
    · rw [mset_n (by decide)]; exact q5
    · rw [mset_n (by decide)]; exact q6
  | some j =>
    have hj := goW_lt hg
    rw [if_neg (show ¬ en (some j) = -1 from nI_ne1 (by omega))]
    rw [goes_loop M G hh _ up FU (some j) (FU_lt (by decide)) (fun i hi => by cases hi; exact ⟨hj, by have := rkW_lt (up := up) hj; have := FU_lt (show 50 < 100000 by decide); omega⟩)]
    rw [skW_eq h8 up (H.1 h) hj (show 8 ≤ FU from Nat.le_of_lt (FU_lt (by decide)))]
    dsimp only
    cases hs : skW W up (H.1 h) (some j) with
    | none =>
      show ∃ mm', F10_goes_b68 _ _ _ _ = _ ∧ _
      unfold F10_goes_b68
      rw [if_pos (show en none = -1 from rfl), f10_loses hp]
      exact ⟨_, rfl, lossM_fr p mm, lossM_S Y⟩
    | some i =>
      have hi := (skp_lt hj hs).1
      obtain ⟨mm', r1, r2, r3⟩ := f10_comes M hp hi hh P Y O k2
      refine ⟨mm', ?_, r2, r3⟩
      show F10_goes_b68 _ _ _ _ = _
      unfold F10_goes_b68
      rw [if_neg (show ¬ en (some i) = -1 from nI_ne1 (by omega)), show en (some i) = nI i from rfl, r1]
      exact bz_in (b2i_z _)
theorem f10_dries {mm : Mem} {W : KW} {H : KH} (M : MW mm W.1 W.2.1 W.2.2) (G : MH mm H) {p h j : Nat} {S : KS} {X : ST} (hp : p < 8) (hh : h < 40) (P : SP mm p S) (Y : SX mm p X) (O : XO W.1 h X) (al : 1 ≤ X.2.2.2.2) (hj : j < W.1) : ∃ mm', F10_driesUp (nI h) (nI p) (nI j) mm = some (b2i (if H.1 h j = true then (lossS X, false) else comeS W (S.2.2.1 == 1) h j X).2, mm') ∧ Fr p mm mm' ∧ SX mm' p (if H.1 h j = true then (lossS X, false) else comeS W (S.2.2.1 == 1) h j X).1 := by
  have h8 := M.1
  unfold F10_driesUp
  rw [mh_cov G hh (show j < 8 by omega)]
  simp only [Option.bind_some]
  cases hc : H.1 h j with
  | true =>
    rw [if_neg (show ¬ b2i true = 0 by decide), if_pos rfl, f10_loses hp]
    exact ⟨_, rfl, lossM_fr p mm, lossM_S Y⟩
  | false =>
    obtain ⟨mm', r1, r2, r3⟩ := f10_comes M hp hj hh P Y O al
    rw [if_pos (show b2i false = 0 from rfl), if_neg (by decide)]
    exact ⟨mm', by rw [r1]; exact bz_in (b2i_z _), r2, r3⟩
theorem f10_isWellX {mm : Mem} {nw : Nat} {st ht : Nat → Nat} (M : MW mm nw st ht) (x : Int32) : F10_isWell x mm = some (if 0 ≤ x ∧ x < nI nw then 1 else 0) := by
  obtain ⟨h8, hn, -⟩ := M
  unfold F10_isWell
  rw [f10_in, hn]
  have e : ((0 : Int64) ≤ x.toInt64 ∧ x.toInt64 ≤ (nI nw - 1).toInt64) ↔ (0 ≤ x ∧ x < nI nw) := by
    rw [Int64.le_iff_toInt_le, Int64.le_iff_toInt_le, Int32.le_iff_toInt_le, Int32.lt_iff_toInt_lt, Int32.toInt_toInt64, Int32.toInt_toInt64, nI_toInt (show nw < 2 ^ 31 by omega), show (nI nw - 1).toInt = (nw : Int) - 1 from pk_sub_toInt (b := 1) (by omega) (by decide)]
    have : (0 : Int64).toInt = 0 := by decide
    have : (0 : Int32).toInt = 0 := by decide
    omega
  simp only [e]
  exact bz_in bz01
theorem f10_isWell {mm : Mem} {nw : Nat} {st ht : Nat → Nat} (M : MW mm nw st ht) {w : Nat} (hw : w < 2 ^ 31) : F10_isWell (nI w) mm = some (b2i (decide (w < nw))) := by
  have h8 := M.1
  rw [f10_isWellX M, b2i_d]
  congr 2
  have := nI_ltI hw (show nw < 2 ^ 31 by omega)
  have := nI_pos' hw
  simp [*]

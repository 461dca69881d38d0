/-! the class: hours filled from events -/
/-- the class's events at e -/
def CE (mc : Mem) (e : Nat) (E : EV) (ne : Nat) : Prop := ne ≤ 8 ∧ mc e 3 = nI ne ∧ ∀ i, i < ne → (mc (e + 1) i = nI (E.1 i) ∧ mc (e + 2) i = nI (E.2.1 i) ∧ mc (e + 3) i = nI (E.2.2 i)) ∧ E.1 i < 3 ∧ E.2.1 i < 40 ∧ E.2.2 i < 8
theorem CE.fi {M M' : Mem} {a b e ne : Nat} {E : EV} (C : CE M e E ne) (f : FI a b M M') (s : e + 3 < a ∨ b ≤ e) : CE M' e E ne := by
  unfold CE
  rw [f e (by omega), f (e + 1) (by omega), f (e + 2) (by omega), f (e + 3) (by omega)]
  exact C
def HK (E : EV) (ne : Nat) (on : Nat → Bool) : KH := (covS E ne on, coinS E ne on, dryS E ne on)
def putH (G : KH) (kd hr w : Nat) : KH := (fun h k => G.1 h k || (kd == 1 && w == k && decide (hr ≤ h) && decide (h ≤ hr + 2)), fun h k => G.2.1 h k || (kd == 0 && hr == h && w == k), fun h => G.2.2 h || (kd == 2 && hr == h))
theorem put_54 {M : Mem} {u kd hr : Nat} {v3 : Int32} (hk : kd < 2) : F3_put_b54 u (nI kd) (nI hr) v3 M = some M := by
  unfold F3_put_b54
  rw [if_neg (show ¬ nI kd = 2 from fun z => by have := (nI_eq (b := 2) (by omega) (by decide)).mp z; omega)]
theorem put_22 {M : Mem} {u hr w : Nat} {G : KH} (C : CH M u G) (h1 : hr < 40) (hw : w < 8) : ∃ M', F3_put_h22 (F3_put_b54 u (nI 1) (nI hr) ((1 : Int32) <<< (nI w &&& (31 : Int32)))) u (nI 1) (nI hr) ((1 : Int32) <<< (nI w &&& (31 : Int32))) FU (nI hr) M = some M' ∧ FI u (u + 4) M M' ∧ CH M' u (putH G 1 hr w) := by
  refine lpF (fun n (s : Int32 × Mem) => F3_put_h22 (F3_put_b54 u (nI 1) (nI hr) ((1 : Int32) <<< (nI w &&& (31 : Int32)))) u (nI 1) (nI hr) ((1 : Int32) <<< (nI w &&& (31 : Int32))) n s.1 s.2) (fun j s => s.1 = nI (hr + j) ∧ FI u (u + 4) M s.2 ∧ ∀ h, h < 40 → BT (s.2 (u + 1) h) (G.2.1 h) ∧ BT (s.2 (u + 2) h) (fun k => G.1 h k || (w == k && decide (hr ≤ h) && decide (h < hr + j))) ∧ s.2 (u + 3) h = b2i (G.2.2 h)) (fun r => ∃ M', r = some M' ∧ FI u (u + 4) M M' ∧ CH M' u (putH G 1 hr w)) (min 3 (40 - hr)) (by omega) ?_ ?_ (nI hr, M) ⟨rfl, FI.refl _ _ _, fun h hh => ?_⟩
  · rintro n j ⟨i, M1⟩ hj ⟨e, f, c⟩
    dsimp only at e f c
    subst e
    left
    refine ⟨(nI (hr + (j + 1)), mset M1 (u + 2) (hr + j) ((M1 (u + 2) (hr + j)) ||| ((1 : Int32) <<< (nI w &&& (31 : Int32))))), ?_, rfl, f.set _ _ _ (by omega), fun h hh => ?_⟩
    · show F3_put_p22 _ _ _ _ _ _ _ _ = _
      unfold F3_put_p22
      rw [if_neg (show ¬ (40 : Int32) ≤ nI (hr + j) from nI_ge (b := 40) (by omega) (by decide)), za3, if_neg (show ¬ nI (hr + 3) ≤ nI (hr + j) from nI_ge (by omega) (by omega)), ckI (show hr + j < 40 by omega) (by decide), ckI (show hr + j < 40 by omega) (by decide), nI_clamp (show hr + j < 2 ^ 31 by omega), nI_1]
      rfl
    · obtain ⟨c1, c2, c3⟩ := c h hh
      dsimp only
      refine ⟨by rw [mset_n (by omega)]; exact c1, ?_, by rw [mset_n (by omega)]; exact c3⟩
      by_cases e : h = hr + j
      · subst e
        rw [mset_s]
        refine bt_cg (bt_or c2 hw) (fun k _ => ?_)
        rw [beqc k w, decide_eq_false (show ¬ hr + j < hr + j by omega), decide_eq_true (show hr ≤ hr + j by omega), decide_eq_true (show hr + j < hr + (j + 1) by omega)]
        simp
      · rw [mset_o e]
        refine bt_cg c2 (fun k _ => ?_)
        have : decide (h < hr + (j + 1)) = decide (h < hr + j) := by rw [Bool.eq_iff_iff]; simp only [decide_eq_true_eq]; omega
        rw [this]
  · rintro n ⟨i, M1⟩ ⟨e, f, c⟩
    dsimp only at e f c
    subst e
    refine ⟨M1, ?_, f, fun h hh => ?_⟩
    · show F3_put_p22 _ _ _ _ _ _ _ _ = _
      unfold F3_put_p22
      by_cases e : hr + 3 ≤ 40
      · rw [show min 3 (40 - hr) = 3 by omega, za3]
        rw [if_pos (show nI (hr + 3) ≤ nI (hr + 3) from nI_le (Nat.le_refl _) (by omega)), put_54 (by decide)]
        split <;> rfl
      · rw [if_pos (show (40 : Int32) ≤ nI (hr + min 3 (40 - hr)) from nI_le (a := 40) (by omega) (by omega)), put_54 (by decide)]
    · obtain ⟨c1, c2, c3⟩ := c h hh
      refine ⟨bt_cg c1 (fun k _ => by show _ = (G.2.1 h k || (1 == 0 && hr == h && w == k)); simp), bt_cg c2 (fun k _ => ?_), by rw [c3]; show _ = b2i (G.2.2 h || (1 == 2 && hr == h)); simp⟩
      show _ = (G.1 h k || (1 == 1 && w == k && decide (hr ≤ h) && decide (h ≤ hr + 2)))
      have : decide (h < hr + min 3 (40 - hr)) = decide (h ≤ hr + 2) := by rw [Bool.eq_iff_iff]; simp only [decide_eq_true_eq]; omega
      rw [this]; simp
  · obtain ⟨c1, c2, c3⟩ := C h hh
    refine ⟨c1, bt_cg c2 (fun k _ => ?_), c3⟩
    have : (decide (hr ≤ h) && decide (h < hr + 0)) = false := by rw [Bool.and_eq_false_iff]; simp only [decide_eq_false_iff_not]; omega
    rw [Bool.and_assoc, this]; simp
theorem f3_put {M : Mem} {u kd hr w : Nat} {G : KH} (C : CH M u G) (hk : kd < 3) (h1 : hr < 40) (hw : w < 8) : ∃ M', F3_put u (nI kd) (nI hr) ((1 : Int32) <<< (nI w &&& (31 : Int32))) M = some M' ∧ FI u (u + 4) M M' ∧ CH M' u (putH G kd hr w) := by
  unfold F3_put F3_put_b14
  rcases (show kd = 0 ∨ kd = 1 ∨ kd = 2 by omega) with rfl | rfl | rfl
  · rw [if_pos (show nI 0 = 0 from rfl), if_neg (show ¬ nI 0 = 1 by decide), ckI h1 (by decide), ckI h1 (by decide), put_54 (by decide), nI_clamp (show hr < 2 ^ 31 by omega)]
    refine ⟨_, rfl, (FI.refl _ _ _).set _ _ _ (by omega), fun h hh => ?_⟩
    obtain ⟨c1, c2, c3⟩ := C h hh
    refine ⟨?_, by rw [mset_n (by omega)]; exact bt_cg c2 (fun k _ => by show _ = (G.1 h k || (0 == 1 && w == k && decide (hr ≤ h) && decide (h ≤ hr + 2))); simp), by rw [mset_n (by omega), c3]; show _ = b2i (G.2.2 h || (0 == 2 && hr == h)); simp⟩
    by_cases e : h = hr
    · subst e
      rw [mset_s]
      exact bt_cg (bt_or c1 hw) (fun k _ => by show _ = (G.2.1 h k || (0 == 0 && h == h && w == k)); rw [beqc k w]; simp)
    · rw [mset_o e]
      exact bt_cg c1 (fun k _ => by show _ = (G.2.1 h k || (0 == 0 && hr == h && w == k)); rw [beqf (fun z => e z.symm)]; simp)
  · rw [if_neg (show ¬ nI 1 = 0 by decide), if_pos (show nI 1 = 1 from rfl)]
    exact put_22 C h1 hw
  · rw [if_neg (show ¬ nI 2 = 0 by decide), if_neg (show ¬ nI 2 = 1 by decide)]
    unfold F3_put_b54
    rw [if_pos (show nI 2 = 2 from rfl), ckI h1 (by decide), nI_clamp (show hr < 2 ^ 31 by omega)]
    refine ⟨_, rfl, (FI.refl _ _ _).set _ _ _ (by omega), fun h hh => ?_⟩
    obtain ⟨c1, c2, c3⟩ := C h hh
    refine ⟨by rw [mset_n (by omega)]; exact bt_cg c1 (fun k _ => by show _ = (G.2.1 h k || (2 == 0 && hr == h && w == k)); simp), by rw [mset_n (by omega)]; exact bt_cg c2 (fun k _ => by show _ = (G.1 h k || (2 == 1 && w == k && decide (hr ≤ h) && decide (h ≤ hr + 2))); simp), ?_⟩
    show _ = b2i (G.2.2 h || (2 == 2 && hr == h))
    by_cases e : h = hr
    · subst e
      rw [mset_s]; simp; rfl
    · rw [mset_o e, c3, beqf (fun z => e z.symm)]; simp
theorem anyF_s (p : Nat → Bool) (n : Nat) : anyF p 0 (n + 1) = (anyF p 0 n || p n) := by
  rw [Bool.eq_iff_iff, Bool.or_eq_true, anyF_iff, anyF_iff]
  constructor
  · rintro ⟨j, h1, h2, h3⟩
    by_cases e : j = n
    · subst e; exact Or.inr h3
    · exact Or.inl ⟨j, h1, by omega, h3⟩
  · rintro (⟨j, h1, h2, h3⟩ | h)
    · exact ⟨j, h1, by omega, h3⟩
    · exact ⟨n, by omega, by omega, h⟩
theorem HK_s (E : EV) (n : Nat) (on : Nat → Bool) : HK E (n + 1) on = if on n then putH (HK E n on) (E.1 n) (E.2.1 n) (E.2.2 n) else HK E n on := by
  unfold HK covS coinS dryS
  simp only [anyF_s]
  cases on n with
  | false => simp
  | true => simp only [Bool.true_and, if_true]; rfl
theorem f3_fill {mc : Mem} {u e : Nat} {E : EV} {ne : Nat} {on : Nat → Bool} {mask : Int32} (C : CE mc e E ne) (se : e + 3 < u ∨ u + 4 ≤ e) (hm : ∀ i, i < 8 → (mask >>> (nI i &&& (31 : Int32))) &&& (1 : Int32) = b2i (on i)) : ∃ mc', F3_fill u e mask mc = some mc' ∧ FI u (u + 4) mc mc' ∧ CH mc' u (HK E ne on) := by
  unfold F3_fill
  refine lpF (fun n (s : Int32 × Mem) => F3_fill_h2 (F3_fill_b35 u e mask) u e mask n s.1 s.2) (fun h s => s.1 = nI h ∧ FI u (u + 4) mc s.2 ∧ ∀ j, j < h → s.2 (u + 1) j = 0 ∧ s.2 (u + 2) j = 0 ∧ s.2 (u + 3) j = 0) (fun r => ∃ mc', r = some mc' ∧ FI u (u + 4) mc mc' ∧ CH mc' u (HK E ne on)) 40 (by decide) ?_ ?_ (0, mc) ⟨rfl, FI.refl _ _ _, fun j hj => by omega⟩
  · rintro n h ⟨i, M⟩ hh ⟨e1, f, c⟩
    dsimp only at e1 f c
    subst e1
    left
    refine ⟨(nI (h + 1), mset (mset (mset M (u + 1) h 0) (u + 2) h 0) (u + 3) h 0), ?_, rfl, ((f.set _ _ _ (by omega)).set _ _ _ (by omega)).set _ _ _ (by omega), fun j hj => ?_⟩
    · show F3_fill_p2 _ _ _ _ _ _ _ = _
      unfold F3_fill_p2
      rw [if_neg (show ¬ (40 : Int32) ≤ nI h from nI_ge (b := 40) hh (by decide)), ckI hh (by decide), ckI hh (by decide), ckI hh (by decide), nI_clamp (show h < 2 ^ 31 by omega), nI_1]
    · dsimp only
      by_cases ej : j = h
      · subst ej
        exact ⟨by rw [mset_n (by omega), mset_n (by omega), mset_s], by rw [mset_n (by omega), mset_s], by rw [mset_s]⟩
      · obtain ⟨c1, c2, c3⟩ := c j (by omega)
        exact ⟨by rw [mset_n (by omega), mset_n (by omega), mset_o ej]; exact c1, by rw [mset_n (by omega), mset_o ej, mset_n (by omega)]; exact c2, by rw [mset_o ej, mset_n (by omega), mset_n (by omega)]; exact c3⟩
  · rintro n ⟨i, M⟩ ⟨e1, f, c⟩
    dsimp only at e1 f c
    subst e1
    have h0 : CH M u (HK E 0 on) := fun h hh => by
      obtain ⟨c1, c2, c3⟩ := c h hh
      exact ⟨by rw [c1]; exact bt_0, by rw [c2]; exact bt_0, by rw [c3]; rfl⟩
    show ∃ mc', F3_fill_h37 u e mask FU (nI 0) M = some mc' ∧ _
    refine lpF (fun n (s : Int32 × Mem) => F3_fill_h37 u e mask n s.1 s.2) (fun i s => s.1 = nI i ∧ FI u (u + 4) mc s.2 ∧ CH s.2 u (HK E i on)) (fun r => ∃ mc', r = some mc' ∧ FI u (u + 4) mc mc' ∧ CH mc' u (HK E ne on)) ne (by have := C.1; omega) ?_ ?_ (nI 0, M) ⟨rfl, f, h0⟩
    · rintro n i ⟨x, M1⟩ hi ⟨e1, f1, c1⟩
      dsimp only at e1 f1 c1
      subst e1
      left
      have C1 := C.fi f1 (by omega)
      have h8 := C.1
      obtain ⟨⟨a1, a2, a3⟩, l1, l2, l3⟩ := C1.2.2 i hi
      have e : F3_fill_h37 u e mask (n + 1) (nI i) M1 = if on i then (F3_put u (nI (E.1 i)) (nI (E.2.1 i)) ((1 : Int32) <<< (nI (E.2.2 i) &&& (31 : Int32))) M1).bind (fun q => F3_fill_h37 u e mask n (nI (i + 1)) q) else F3_fill_h37 u e mask n (nI (i + 1)) M1 := by
        show F3_fill_p37 _ _ _ _ _ _ = _
        unfold F3_fill_p37 F3_fill_b92
        rw [C1.2.1, if_neg (nI_ge hi (by omega)), hm i (by omega), ckI (show i < 8 by omega) (by decide), ckI (show i < 8 by omega) (by decide), ckI (show i < 8 by omega) (by decide), ckI (show i < 8 by omega) (by decide), nI_clamp (show i < 2 ^ 31 by omega), f9_b, a1, a2, a3, if_pos (show 0 ≤ nI (E.2.1 i) ∧ nI (E.2.1 i) < (40 : Int32) from of_i (b := 40) l2 (by decide)), nI_1]
        cases on i <;> rfl
      cases ho : on i with
      | false =>
        rw [ho, if_neg (by decide)] at e
        exact ⟨(nI (i + 1), M1), e, rfl, f1, by rw [HK_s, ho, if_neg (by decide)]; exact c1⟩
      | true =>
        obtain ⟨M', r1, r2, r3⟩ := f3_put c1 l1 l2 l3
        rw [ho, if_pos rfl, r1, Option.bind_some] at e
        exact ⟨(nI (i + 1), M'), e, rfl, f1.trans r2, by rw [HK_s, ho, if_pos rfl]; exact r3⟩
    · rintro n ⟨x, M1⟩ ⟨e1, f1, c1⟩
      dsimp only at e1 f1 c1
      subst e1
      refine ⟨M1, ?_, f1, c1⟩
      show F3_fill_p37 _ u e mask (nI ne) M1 = _
      unfold F3_fill_p37
      rw [(C.fi f1 (by omega)).2.1, if_pos (nI_le (Nat.le_refl _) (by have := C.1; omega))]
theorem mask_all : ∀ i, i < 8 → ((-1 : Int32) >>> (nI i &&& (31 : Int32))) &&& (1 : Int32) = b2i true := by decide
theorem mask_one : ∀ a, a < 8 → ∀ i, i < 8 → (((-1 : Int32) &&& (((1 : Int32) <<< (nI a &&& (31 : Int32))) ^^^ (-1 : Int32))) >>> (nI i &&& (31 : Int32))) &&& (1 : Int32) = b2i (!(i == a)) := by decide
theorem mask_0 : ∀ i, i < 8 → (((-1 : Int32) &&& ((0 : Int32) ^^^ (-1 : Int32))) >>> (nI i &&& (31 : Int32))) &&& (1 : Int32) = b2i true := by decide
theorem mask_two : ∀ a, a < 8 → ∀ b, b < 8 → ∀ i, i < 8 → (((-1 : Int32) &&& ((((1 : Int32) <<< (nI a &&& (31 : Int32))) ||| ((1 : Int32) <<< (nI b &&& (31 : Int32)))) ^^^ (-1 : Int32))) >>> (nI i &&& (31 : Int32))) &&& (1 : Int32) = b2i (!(i == a || i == b)) := by decide +kernel

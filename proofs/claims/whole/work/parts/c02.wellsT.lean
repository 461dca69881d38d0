/-! the text of wells, told plainly; both sides read it so -/
def okW (k c : Nat) : Bool := if k = 0 then c == 103 || c == 99 || c == 115 else if k = 1 then decide (48 ≤ c) && decide (c ≤ 57) else c == 59
def vW (k c : Nat) : Nat := if k = 0 then (if c = 103 then 0 else if c = 99 then 1 else 2) else if k = 1 then c - 48 else 0
def badW (b : Nat → Nat) (i : Nat) : Bool := !(okW (i % 3) (b i))
def fW (b : Nat → Nat) (n : Nat) : Option Nat := match fsB (badW b) n with
  | some i => some i
  | none => if 0 < n ∧ ¬ n % 3 = 2 then some n else none
def nW (b : Nat → Nat) (n : Nat) : Nat := match fW b n with
  | some _ => 0
  | none => (n + 1) / 3
def stW (b : Nat → Nat) (k : Nat) : Nat := vW 0 (b (3 * k))
def htW (b : Nat → Nat) (k : Nat) : Nat := vW 1 (b (3 * k + 1))
theorem tb_wellOf : ∀ k, k < 3 → ∀ c, c < 256 → F10_wellOf (nI k) (nI c) = some (if okW k c then nI (vW k c) else -9) := by decide +kernel
theorem tb_v9 : ∀ k, k < 3 → ∀ c, c < 256 → ¬ nI (vW k c) = -9 := by decide +kernel
theorem tb_ok1 : ∀ c, c < 256 → okW 1 c = true → vW 1 c < 10 := by decide +kernel
theorem vW0_lt (c : Nat) : vW 0 c < 3 := by
  unfold vW
  rw [if_pos rfl]
  split
  · omega
  · split <;> omega
theorem fsB_cons {p : Nat → Bool} {n : Nat} (h : fsB p n = none) (hp : p n = false) : fsB p (n + 1) = none := by
  unfold fsB; rw [h]; dsimp only; rw [hp]; rfl
theorem fsB_hit {p : Nat → Bool} {n : Nat} (h : fsB p n = none) (hp : p n = true) : fsB p (n + 1) = some n := by
  unfold fsB; rw [h]; dsimp only; rw [hp]; rfl
theorem fW_hit {b : Nat → Nat} {n i : Nat} (h : fsB (badW b) i = none) (hp : badW b i = true) (hi : i < n) : fW b n = some i := by
  unfold fW
  rw [fsB_ge (fsB_hit h hp) (by omega)]
theorem fW_end {b : Nat → Nat} {n : Nat} (h : fsB (badW b) n = none) (h0 : 0 < n) (h2 : ¬ n % 3 = 2) : fW b n = some n := by
  unfold fW
  rw [h]
  dsimp only
  rw [if_pos ⟨h0, h2⟩]
theorem fW_ok {b : Nat → Nat} {n : Nat} (h : fsB (badW b) n = none) (h2 : n = 0 ∨ n % 3 = 2) : fW b n = none := by
  unfold fW
  rw [h]
  dsimp only
  rw [if_neg (by omega)]
theorem fW_none {b : Nat → Nat} {n : Nat} (h : fW b n = none) : fsB (badW b) n = none ∧ (n = 0 ∨ n % 3 = 2) := by
  unfold fW at h
  cases hf : fsB (badW b) n with
  | some i => rw [hf] at h; cases h
  | none =>
    rw [hf] at h
    dsimp only at h
    split at h
    · cases h
    · exact ⟨rfl, by omega⟩
theorem ht_lt {b : Nat → Nat} {n k : Nat} (hb : ∀ i, i < n → b i < 256) (h : fsB (badW b) n = none) (hk : 3 * k + 1 < n) : htW b k < 10 := by
  have he : evB (badW b) n = false := fsB_none.mp h
  have : badW b (3 * k + 1) = false := by
    cases hc : badW b (3 * k + 1) with
    | false => rfl
    | true => rw [(evB_iff _ _).mpr ⟨3 * k + 1, hk, hc⟩] at he; cases he
  unfold badW at this
  rw [show (3 * k + 1) % 3 = 1 by omega, Bool.not_eq_false'] at this
  exact tb_ok1 _ (hb _ hk) this
theorem nW_le {b : Nat → Nat} {n : Nat} (hn : n ≤ 23) : nW b n ≤ 8 := by
  unfold nW
  split <;> omega
theorem r_readsWells {mm : Mem} {b : Nat → Nat} {n : Nat} (h6 : mm 6 0 = nI n) (h5 : ∀ i, i < n → mm 5 i = nI (b i)) (hb : ∀ i, i < n → b i < 256) (hn : n ≤ 23) : ∃ mm', F10_readsWells mm = some (en (fW b n), mm') ∧ (∀ k, k ≠ 0 → k ≠ 7 → mm' k = mm k) ∧ (∀ i, i ≠ 7 → mm' 0 i = mm 0 i) ∧ MW mm' (nW b n) (stW b) (htW b) := by
  unfold F10_readsWells
  simp only [lt]
  rw [show (mset mm 0 7 0) 6 (0 : Int32).toNatClampNeg = nI n from by rw [mset_n (by decide)]; exact h6]
  refine lpF (fun m (s : Int32 × Mem) => F10_readsWells_h14 F10_readsWells_b42 F10_readsWells_b93 m (nI n) s.1 s.2) (fun i s => s.1 = nI i ∧ (∀ k, k ≠ 0 → k ≠ 7 → s.2 k = mm k) ∧ (∀ j, j ≠ 7 → s.2 0 j = mm 0 j) ∧ s.2 0 7 = nI ((i + 1) / 3) ∧ fsB (badW b) i = none ∧ ∀ k, (3 * k < i → s.2 7 (2 * k) = nI (stW b k)) ∧ (3 * k + 1 < i → s.2 7 (2 * k + 1) = nI (htW b k))) (fun r => ∃ mm', r = some (en (fW b n), mm') ∧ (∀ k, k ≠ 0 → k ≠ 7 → mm' k = mm k) ∧ (∀ i, i ≠ 7 → mm' 0 i = mm 0 i) ∧ MW mm' (nW b n) (stW b) (htW b)) n (by omega) ?_ ?_ (0, mset mm 0 7 0) ⟨rfl, fun k h1 _ => by dsimp only; rw [mset_n h1], fun j hj => by dsimp only; rw [mset_o hj], by dsimp only; rw [mset_s]; rfl, rfl, fun k => ⟨fun h => by omega, fun h => by omega⟩⟩
  · rintro m i ⟨x, M⟩ hi ⟨e, f, g, c, hf, d⟩
    dsimp only at e f g c d
    subst e
    have hr : jrem (nI i) 3 = nI (i % 3) := jrI (d := 3) (by omega) (by decide) (by decide)
    have hq : nI i / (3 : Int32) = nI (i / 3) := pk_div (d := 3) (by omega) (by decide) (by decide)
    have hm3 : i % 3 < 3 := Nat.mod_lt _ (by decide)
    have hv9 := tb_v9 (i % 3) hm3 (b i) (hb i hi)
    have head : F10_readsWells_h14 F10_readsWells_b42 F10_readsWells_b93 (m + 1) (nI n) (nI i) M = if okW (i % 3) (b i) then (if 2 ≤ i % 3 then F10_readsWells_b68 (F10_readsWells_h14 F10_readsWells_b42 F10_readsWells_b93 m) F10_readsWells_b42 F10_readsWells_b93 (nI n) (nI i) (nI (i % 3)) M else F10_readsWells_b68 (F10_readsWells_h14 F10_readsWells_b42 F10_readsWells_b93 m) F10_readsWells_b42 F10_readsWells_b93 (nI n) (nI i) (nI (i % 3)) (mset M 7 (2 * (i / 3) + i % 3) (nI (vW (i % 3) (b i))))) else F10_readsWells_b42 (nI i) M := by
      show F10_readsWells_p14 _ _ _ (nI n) (nI i) M = _
      unfold F10_readsWells_p14
      rw [if_neg (nI_ge hi (by omega)), ckI (show i < 128 by omega) (by decide), nI_clamp (show i < 2 ^ 31 by omega), show M 5 i = nI (b i) from by rw [f 5 (by decide) (by decide)]; exact h5 i hi, hr, hq, tb_wellOf _ hm3 _ (hb i hi), Option.bind_some, zm2, nI_add]
      simp only [zl2 (show i % 3 < 2 ^ 31 by omega)]
      cases hok : okW (i % 3) (b i) with
      | false => rfl
      | true =>
        rw [if_pos rfl, if_pos rfl, if_neg hv9]
        by_cases z : 2 ≤ i % 3
        · rw [if_pos z, if_pos z]
        · rw [if_neg z, if_neg z, ckI (show 2 * (i / 3) + i % 3 < 16 by omega) (by decide), nI_clamp (show 2 * (i / 3) + i % 3 < 2 ^ 31 by omega)]
    have bad : badW b i = !(okW (i % 3) (b i)) := rfl
    cases hok : okW (i % 3) (b i) with
    | false =>
      right
      rw [hok, if_neg (by decide)] at head
      rw [hok] at bad
      have hfw := fW_hit hf bad hi
      refine ⟨mset M 0 7 0, ?_, fun k h1 h2 => by rw [mset_n h1]; exact f k h1 h2, fun j hj => by rw [mset_o hj]; exact g j hj, ?_⟩
      · show F10_readsWells_h14 _ _ (m + 1) (nI n) (nI i) M = _
        rw [head, hfw]; rfl
      · rw [show nW b n = 0 from by unfold nW; rw [hfw]]
        exact ⟨by omega, mset_s _ _ _ _, fun k hk => by omega⟩
    | true =>
      left
      rw [hok, if_pos rfl] at head
      rw [hok] at bad
      have hf1 := fsB_cons hf bad
      by_cases z : 2 ≤ i % 3
      · rw [if_pos z] at head
        refine ⟨(nI (i + 1), mset M 0 7 (nI ((i + 1 + 1) / 3))), ?_, rfl, fun k h1 h2 => by dsimp only; rw [mset_n h1]; exact f k h1 h2, fun j hj => by dsimp only; rw [mset_o hj]; exact g j hj, by dsimp only; rw [mset_s], hf1, fun k => ⟨fun h => by dsimp only; rw [mset_n (by decide)]; exact (d k).1 (by omega), fun h => by dsimp only; rw [mset_n (by decide)]; exact (d k).2 (by omega)⟩⟩
        show F10_readsWells_h14 _ _ (m + 1) (nI n) (nI i) M = _
        rw [head]
        unfold F10_readsWells_b68 F10_readsWells_b83
        rw [if_neg (show ¬ nI (i % 3) = 1 from fun y => by have := (nI_eq (b := 1) (by omega) (by decide)).mp y; omega), c, nI_1, show (0 : Int32) = nI 0 from rfl, nI_add, show (i + 1 + 1) / 3 = (i + 1) / 3 + 0 by omega]
      · rw [if_neg z] at head
        have wr : ∀ k, (3 * k < i + 1 → (mset M 7 (2 * (i / 3) + i % 3) (nI (vW (i % 3) (b i)))) 7 (2 * k) = nI (stW b k)) ∧ (3 * k + 1 < i + 1 → (mset M 7 (2 * (i / 3) + i % 3) (nI (vW (i % 3) (b i)))) 7 (2 * k + 1) = nI (htW b k)) := by
          intro k
          constructor
          · intro h
            by_cases y : 3 * k = i
            · have h1 : i % 3 = 0 := by omega
              have h2 : i / 3 = k := by omega
              rw [h1, h2, Nat.add_zero, mset_s]
              unfold stW
              rw [y]
            · rw [mset_o (by omega)]; exact (d k).1 (by omega)
          · intro h
            by_cases y : 3 * k + 1 = i
            · have h1 : i % 3 = 1 := by omega
              have h2 : i / 3 = k := by omega
              rw [h1, h2, mset_s]
              unfold htW
              rw [y]
            · rw [mset_o (by omega)]; exact (d k).2 (by omega)
        refine ⟨(nI (i + 1), mset (mset M 7 (2 * (i / 3) + i % 3) (nI (vW (i % 3) (b i)))) 0 7 (nI ((i + 1 + 1) / 3))), ?_, rfl, fun k h1 h2 => by dsimp only; rw [mset_n h1, mset_n h2]; exact f k h1 h2, fun j hj => by dsimp only; rw [mset_o hj, mset_n (by decide)]; exact g j hj, by dsimp only; rw [mset_s], hf1, fun k => ⟨fun h => by dsimp only; rw [mset_n (by decide)]; exact (wr k).1 h, fun h => by dsimp only; rw [mset_n (by decide)]; exact (wr k).2 h⟩⟩
        show F10_readsWells_h14 _ _ (m + 1) (nI n) (nI i) M = _
        rw [head]
        unfold F10_readsWells_b68 F10_readsWells_b83
        rw [show (mset M 7 (2 * (i / 3) + i % 3) (nI (vW (i % 3) (b i)))) 0 7 = nI ((i + 1) / 3) from by rw [mset_n (by decide)]; exact c, nI_1 i]
        by_cases y : i % 3 = 1
        · rw [if_pos (show nI (i % 3) = 1 by rw [y]; rfl), nI_1, show (i + 1 + 1) / 3 = (i + 1) / 3 + 1 by omega]
        · rw [if_neg (show ¬ nI (i % 3) = 1 from fun x => by have := (nI_eq (b := 1) (by omega) (by decide)).mp x; omega), show (0 : Int32) = nI 0 from rfl, nI_add, show (i + 1 + 1) / 3 = (i + 1) / 3 + 0 by omega]
  · rintro m ⟨x, M⟩ ⟨e, f, g, c, hf, d⟩
    dsimp only at e f g c d
    have hr : jrem (nI n) 3 = nI (n % 3) := jrI (d := 3) (by omega) (by decide) (by decide)
    have head : F10_readsWells_h14 F10_readsWells_b42 F10_readsWells_b93 (m + 1) (nI n) x M = if n = 0 ∨ n % 3 = 2 then some (-1, M) else some (nI n, mset M 0 7 0) := by
      show F10_readsWells_p14 _ _ _ (nI n) x M = _
      unfold F10_readsWells_p14 F10_readsWells_b93
      rw [e, if_pos (nI_le (Nat.le_refl _) (by omega)), hr]
      have z0 : (nI n ≤ (0 : Int32)) = (n ≤ 0) := zg0 (by omega)
      have z2 : (nI (n % 3) = (2 : Int32)) = (n % 3 = 2) := ze2 (by omega)
      simp only [z0, z2]
      by_cases a1 : n = 0
      · rw [if_pos (by omega), if_pos (Or.inl a1)]
      · rw [if_neg (by omega)]
        by_cases a2 : n % 3 = 2
        · rw [if_pos a2, if_pos (Or.inr a2)]
        · rw [if_neg a2, if_neg (by omega)]
    by_cases a : n = 0 ∨ n % 3 = 2
    · rw [if_pos a] at head
      have hfw := fW_ok hf a
      have hnw : nW b n = (n + 1) / 3 := by unfold nW; rw [hfw]
      refine ⟨M, by rw [hfw]; exact head, f, g, ?_⟩
      rw [hnw]
      exact ⟨by omega, c, fun k hk => ⟨(d k).1 (by omega), (d k).2 (by omega), vW0_lt _, ht_lt hb hf (by omega)⟩⟩
    · rw [if_neg a] at head
      have hfw := fW_end hf (by omega) (by omega)
      refine ⟨mset M 0 7 0, by rw [hfw]; exact head, fun k h1 h2 => by rw [mset_n h1]; exact f k h1 h2, fun j hj => by rw [mset_o hj]; exact g j hj, ?_⟩
      rw [show nW b n = 0 from by unfold nW; rw [hfw]]
      exact ⟨by omega, mset_s _ _ _ _, fun k hk => by omega⟩
/-- a text of the class at o -/
def CT (mc : Mem) (o : Nat) (n : Nat) (b : Nat → Nat) : Prop := mc o 1 = nI n ∧ ∀ i, i < n → mc (o + 1) i = nI (b i) ∧ b i < 256
theorem CT.ag {mc mc' : Mem} {o n : Nat} {b : Nat → Nat} (C : CT mc o n b) (h1 : mc' o 1 = mc o 1) (h2 : mc' (o + 1) = mc (o + 1)) : CT mc' o n b := by
  unfold CT at *
  rw [h1, h2]
  exact C
theorem f7_sign {mc : Mem} {o n i s : Nat} {b : Nat → Nat} (C : CT mc o n b) (hn : n ≤ ln (o + 1)) (hl : ln (o + 1) < 1000) (hi : i < 1000) : F7_sign o (nI i) s mc = if i < n then F0_indexOf_0f7a4 s (nI (b i)) else some (-1) := by
  unfold F7_sign
  rw [C.1, f9_b]
  by_cases c : i < n
  · obtain ⟨h1, h2⟩ := C.2 i c
    rw [if_pos (of_i c (by omega)), if_pos c, ckI (show i < ln (o + 1) by omega) (by omega), nI_clamp (show i < 2 ^ 31 by omega), h1, pk_char, pk_tn (show b i < 2 ^ 32 by omega), Nat.mod_eq_of_lt (show b i < 65536 by omega)]
    cases F0_indexOf_0f7a4 s (nI (b i)) <;> rfl
  · rw [if_neg (fun z => c ((ltI (by omega) (by omega)).mp z.2)), if_neg c]
theorem tb_sW0 : ∀ c, c < 256 → F0_indexOf_0f7a4 5 (nI c) = some (if okW 0 c then nI (vW 0 c) else -1) := by decide +kernel
theorem tb_sW1 : ∀ c, c < 256 → F0_indexOf_0f7a4 6 (nI c) = some (if okW 1 c then nI (vW 1 c) else -1) := by decide +kernel
theorem tb_sW2 : ∀ c, c < 256 → F0_indexOf_0f7a4 0 (nI c) = some (if okW 2 c then 0 else -1) := by decide +kernel
theorem tb_vm : ∀ k, k < 3 → ∀ c, c < 256 → ¬ nI (vW k c) = -1 := by decide +kernel
/-- one sign of the class's text of wells: what is there, or none -/
def sgW (b : Nat → Nat) (n k i : Nat) : Int32 := if i < n ∧ okW k (b i) = true then nI (vW k (b i)) else -1
theorem sg_W {mc : Mem} {n i k : Nat} {b : Nat → Nat} (C : CT mc 2 n b) (hn : n ≤ 23) (hi : i < 1000) (hk : k < 3) : F7_sign 2 (nI i) (if k = 0 then 5 else if k = 1 then 6 else 0) mc = some (sgW b n k i) := by
  rw [f7_sign C (show n ≤ ln (2 + 1) from hn) (show ln (2 + 1) < 1000 by decide) hi]
  unfold sgW
  by_cases c : i < n
  · have hb := (C.2 i c).2
    rw [if_pos c]
    rcases (show k = 0 ∨ k = 1 ∨ k = 2 by omega) with rfl | rfl | rfl
    · rw [if_pos rfl, tb_sW0 _ hb]; simp only [c, true_and]
    · rw [if_neg (by decide), if_pos rfl, tb_sW1 _ hb]; simp only [c, true_and]
    · rw [if_neg (by decide), if_neg (by decide), tb_sW2 _ hb]; simp only [c, true_and]; rfl
  · rw [if_neg c, if_neg (fun z => c z.1)]
theorem sgW_m {b : Nat → Nat} {n k i : Nat} (hb : ∀ i, i < n → b i < 256) (hk : k < 3) : (sgW b n k i = -1) = ¬ (i < n ∧ okW k (b i) = true) := by
  unfold sgW
  by_cases c : i < n ∧ okW k (b i) = true
  · rw [if_pos c]
    exact propext ⟨fun z => absurd z (tb_vm k hk _ (hb i c.1)), fun z => absurd c z⟩
  · rw [if_neg c]
    exact propext ⟨fun _ => c, fun _ => rfl⟩

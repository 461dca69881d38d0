/-! the class: ask, to its end -/
def maxN (f : Nat → Nat) : Nat → Nat
  | 0 => 0
  | n + 1 => max (maxN f n) (f n)
theorem maxN_s (f : Nat → Nat) (n : Nat) : maxN f (n + 1) = max (maxN f n) (f n) := rfl
theorem le_maxN {f : Nat → Nat} {n i : Nat} (h : i < n) : f i ≤ maxN f n := by
  induction n with
  | zero => omega
  | succ n ih =>
    rw [maxN_s]
    by_cases e : i = n
    · subst e; omega
    · have := ih (by omega); omega
theorem maxN_le {f : Nat → Nat} {n c : Nat} (h : ∀ i, i < n → f i ≤ c) : maxN f n ≤ c := by
  induction n with
  | zero => exact Nat.zero_le _
  | succ n ih =>
    rw [maxN_s]
    have := ih (fun i hi => h i (by omega))
    have := h n (by omega)
    omega
def alkB (sm : Nat → Bool) (f : Nat → Nat) (a b : Nat) : Bool := sm a && sm b && (f a == f b)
/-- how many are alike, at most -/
def alkN (sm : Nat → Bool) (f : Nat → Nat) (n : Nat) : Nat := maxN (fun a => cntN (alkB sm f a) n) n
theorem cnt_mono (p : Nat → Bool) {n m : Nat} (h : n ≤ m) : cntN p n ≤ cntN p m := by
  induction m with
  | zero => have : n = 0 := by omega
            subst this; exact Nat.le_refl _
  | succ m ih =>
    by_cases e : n = m + 1
    · subst e; exact Nat.le_refl _
    · have := ih (by omega); rw [cnt_s]; omega
theorem alk_tally (sm : Nat → Bool) (f : Nat → Nat) {a n : Nat} (h : sm a = true) : cntN (alkB sm f a) n = cntN (fun b => sm b && (f b == f a)) n := cntN_congr (fun j _ => by unfold alkB; rw [h, beqc (f a)]; rfl)
theorem alk_off (sm : Nat → Bool) (f : Nat → Nat) {a n : Nat} (h : sm a = false) : cntN (alkB sm f a) n = 0 := by
  have : cntN (alkB sm f a) n = cntN (fun _ => false) n := cntN_congr (fun j _ => by unfold alkB; rw [h]; rfl)
  rw [this]
  clear this
  induction n with
  | zero => rfl
  | succ n ih => rw [cnt_s, ih]; rfl
theorem alk_s (sm : Nat → Bool) (f : Nat → Nat) (n : Nat) : alkN sm f (n + 1) = if sm n then max (alkN sm f n) (cntN (fun b => sm b && (f b == f n)) (n + 1)) else alkN sm f n := by
  apply Nat.le_antisymm
  · refine maxN_le (fun a ha => ?_)
    cases hn : sm n with
    | false =>
      rw [if_neg (by decide), cnt_s]
      have : alkB sm f a n = false := by unfold alkB; rw [hn]; simp
      rw [this]
      by_cases e : a = n
      · subst e; rw [alk_off sm f hn]; exact Nat.zero_le _
      · exact le_maxN (f := fun a => cntN (alkB sm f a) n) (show a < n by omega)
    | true =>
      rw [if_pos rfl]
      cases hs : sm a with
      | false => rw [alk_off sm f hs]; exact Nat.zero_le _
      | true =>
        by_cases e : f a = f n
        · rw [alk_tally sm f hs, e]; omega
        · rw [cnt_s]
          have : alkB sm f a n = false := by unfold alkB; rw [beqf e]; simp
          rw [this]
          have h1 : a < n := by
            by_cases z : a = n
            · subst z; exact absurd rfl e
            · omega
          have := le_maxN (f := fun a => cntN (alkB sm f a) n) h1
          unfold alkN
          show cntN (alkB sm f a) n + 0 ≤ _
          omega
  · have h1 : alkN sm f n ≤ alkN sm f (n + 1) := maxN_le (fun a ha => Nat.le_trans (cnt_mono _ (Nat.le_succ n)) (le_maxN (f := fun a => cntN (alkB sm f a) (n + 1)) (show a < n + 1 by omega)))
    cases hn : sm n with
    | false => rw [if_neg (by decide)]; exact h1
    | true =>
      rw [if_pos rfl, ← alk_tally sm f hn]
      have := le_maxN (f := fun a => cntN (alkB sm f a) (n + 1)) (Nat.lt_succ_self n)
      have h2 : cntN (alkB sm f n) (n + 1) ≤ alkN sm f (n + 1) := this
      omega
theorem c_alike {mc : Mem} {sm : Nat → Bool} {f : Nat → Nat} {h : Nat} (hh : h < 40) (hf : ∀ a, a < 10 → f a ≤ 8) (hM : ∀ a, a < 10 → mc 97 (a * 40 + h) = nI (if sm a then f a else 0)) : ∃ mc', F9_mostAlike (nI (bitsN sm 10)) (nI h) mc = some (nI (alkN sm f 10), mc') ∧ FI 98 99 mc mc' := by
  unfold F9_mostAlike
  obtain ⟨M, s1, s2, s3⟩ := f7_fill (mc := mc) (a := 98) 0 (show ln 98 = 9 from rfl) (by decide)
  have g0 : FI 98 99 mc M := fun i hi => s2 i (by omega)
  rw [s1, Option.bind_some]
  have hbit : ∀ x, x < 10 → (nI (bitsN sm 10) >>> (nI x &&& (31 : Int32))) &&& (1 : Int32) = b2i (sm x) := fun x hx => by
    rw [bit_nI (Nat.lt_of_lt_of_le (bitsN_lt sm 10) (by decide)) (by omega), bitsN_test sm 10 x hx]
  refine lpF (fun n (s : Int32 × Int32 × Mem) => F9_mostAlike_h13 (nI (bitsN sm 10)) (nI h) n s.1 s.2.1 s.2.2) (fun b s => s.1 = nI (alkN sm f b) ∧ s.2.1 = nI b ∧ FI 98 99 mc s.2.2 ∧ ∀ v, v < 9 → s.2.2 98 v = nI (cntN (fun b => sm b && (f b == v)) b)) (fun r => ∃ mc', r = some (nI (alkN sm f 10), mc') ∧ FI 98 99 mc mc') 10 (by decide) ?_ ?_ (0, 0, M) ⟨rfl, rfl, g0, fun v hv => s3 v hv⟩
  · rintro n a ⟨y, z, M1⟩ ha ⟨e1, e2, f1, c⟩
    dsimp only at e1 e2 f1 c
    subst e1 e2
    left
    have h97 := (congrFun (f1 97 (by omega)) (a * 40 + h)).trans (hM a ha)
    have hfa := hf a ha
    have e : F9_mostAlike_h13 (nI (bitsN sm 10)) (nI h) (n + 1) (nI (alkN sm f a)) (nI a) M1 = if sm a then F9_mostAlike_h13 (nI (bitsN sm 10)) (nI h) n (if nI (alkN sm f a) < nI (cntN (fun b => sm b && (f b == f a)) (a + 1)) then nI (cntN (fun b => sm b && (f b == f a)) (a + 1)) else nI (alkN sm f a)) (nI (a + 1)) (mset M1 98 (f a) (nI (cntN (fun b => sm b && (f b == f a)) (a + 1)))) else F9_mostAlike_h13 (nI (bitsN sm 10)) (nI h) n (nI (alkN sm f a)) (nI (a + 1)) M1 := by
      show F9_mostAlike_p13 _ _ _ (nI (alkN sm f a)) (nI a) M1 = _
      unfold F9_mostAlike_p13 F9_mostAlike_b80
      rw [if_neg (show ¬ (10 : Int32) ≤ nI a from nI_ge (b := 10) ha (by decide)), zr40, nI_add, ckI (show a * 40 + h < 400 by omega) (by decide), hbit a ha, nI_clamp (show a * 40 + h < 2 ^ 31 by omega), nI_1 a]
      cases hs : sm a with
      | false => rw [if_neg (show ¬ b2i false = 1 by decide), if_neg (by decide)]
      | true =>
        rw [hs, if_pos rfl] at h97
        rw [if_pos (show b2i true = 1 from rfl), if_pos rfl, h97, f9_b, if_pos (show 0 ≤ nI (f a) ∧ nI (f a) < Int32.ofNat 9 from of_i (b := 9) (by omega) (by decide)), ckI (show f a < 9 by omega) (by decide), ckI (show f a < 9 by omega) (by decide), nI_clamp (show f a < 2 ^ 31 by omega)]
        simp only [lt]
        rw [ckI (show f a < 9 by omega) (by decide), mset_s, c (f a) (by omega)]
        have : nI (cntN (fun b => sm b && (f b == f a)) a) + (1 : Int32) = nI (cntN (fun b => sm b && (f b == f a)) (a + 1)) := by
          rw [nI_1, cnt_s, hs]; simp [b2n]
        rw [this]
    cases hs : sm a with
    | false =>
      rw [hs, if_neg (by decide)] at e
      refine ⟨(nI (alkN sm f a), nI (a + 1), M1), e, by rw [alk_s, hs]; rfl, rfl, f1, fun v hv => ?_⟩
      dsimp only
      rw [c v hv, cnt_s, hs]; rfl
    | true =>
      rw [hs, if_pos rfl] at e
      refine ⟨(nI (alkN sm f (a + 1)), nI (a + 1), mset M1 98 (f a) (nI (cntN (fun b => sm b && (f b == f a)) (a + 1)))), ?_, rfl, rfl, f1.set _ _ _ (by omega), fun v hv => ?_⟩
      · have hc := cntN_le (fun b => sm b && (f b == f a)) (a + 1)
        have hm : alkN sm f a ≤ a := maxN_le (fun i _ => cntN_le _ _)
        show F9_mostAlike_h13 (nI (bitsN sm 10)) (nI h) (n + 1) (nI (alkN sm f a)) (nI a) M1 = _
        rw [e]
        dsimp only
        have : (if nI (alkN sm f a) < nI (cntN (fun b => sm b && (f b == f a)) (a + 1)) then nI (cntN (fun b => sm b && (f b == f a)) (a + 1)) else nI (alkN sm f a)) = nI (alkN sm f (a + 1)) := by
          simp only [ltI (show alkN sm f a < 2 ^ 31 by omega) (show cntN (fun b => sm b && (f b == f a)) (a + 1) < 2 ^ 31 by omega)]
          rw [alk_s, hs, if_pos rfl]
          split
          · congr 1; omega
          · congr 1; omega
        rw [this]
      · dsimp only
        by_cases z : v = f a
        · subst z; rw [mset_s]
        · rw [mset_o z, c v hv, cnt_s, beqf (fun y => z y.symm), Bool.and_false]; rfl
  · rintro n ⟨y, z, M1⟩ ⟨e1, e2, f1, c⟩
    dsimp only at e1 e2 f1 c
    subst e1 e2
    exact ⟨M1, rfl, f1⟩
def askN (K : KX) (k h : Nat) : Nat := alkN (stoodB K k) (fun x => inN K k x h) 10
def aAskOf (K : KX) (k : Nat) : Int32 := en (argF (fun h => some (askN K k h)) 40)
def aAsk (K : KX) (v : Int32) : Int32 := if 0 ≤ v ∧ v < nI K.1.1 then aAskOf K v.toNatClampNeg else -2
theorem askN_le (K : KX) (k h : Nat) : askN K k h ≤ 10 := maxN_le (fun i _ => cntN_le _ _)
theorem c_ask {mc : Mem} {K : KX} (I : CI mc K) (v : Int32) : ∃ mc', F9_ask v mc = some (aAsk K v, mc') ∧ FC mc mc' ∧ CI mc' K := by
  have h8 := I.1.w8
  have n8 := I.1.n8
  unfold F9_ask aAsk
  rw [I.1.1.1.2.1, f9_b]
  by_cases c : 0 ≤ v ∧ v < nI K.1.1
  · rw [if_pos c, if_pos c]
    obtain ⟨k, hk, rfl⟩ := i_of (by omega) c
    obtain ⟨M, r1, r2, r3, -, -⟩ := f9_refresh I
    rw [r1, Option.bind_some, nI_clamp (show k < 2 ^ 31 by omega)]
    obtain ⟨M2, q1, q2⟩ := c_heights r3 hk
    rw [q1, Option.bind_some]
    dsimp only
    obtain ⟨M3, p1, p2, p3⟩ := c_ciw (r3.fi q2) hk (stoodB K k)
    rw [p1, Option.bind_some]
    have f3 := q2.trans p2
    suffices hg : ∃ mc', F9_ask_h41 (nI k) FU (nI (bitsN (stoodB K k) 10)) (-1) (-1) 0 M3 = some (aAskOf K k, mc') ∧ FI 98 99 M3 mc' by
      obtain ⟨mc', g1, g2⟩ := hg
      have f4 : FI 79 100 M mc' := f3.trans (g2.mono (by omega) (by omega))
      exact ⟨mc', g1, r2.trans (FC.of f4 (by omega)), (r3.fi f4).ci⟩
    have glt : ∀ i j, (fun h => some (askN K k h)) i = some j → j < 11 := fun i j h => by have e : askN K k i = j := Option.some.inj h; have := askN_le K k i; omega
    refine lpF (fun n (s : Int32 × Int32 × Int32 × Mem) => F9_ask_h41 (nI k) n (nI (bitsN (stoodB K k) 10)) s.1 s.2.1 s.2.2.1 s.2.2.2) (fun w s => s.1 = en (argF (fun h => some (askN K k h)) w) ∧ s.2.1 = en (minF (fun h => some (askN K k h)) w) ∧ s.2.2.1 = nI w ∧ FI 98 99 M3 s.2.2.2) (fun r => ∃ mc', r = some (aAskOf K k, mc') ∧ FI 98 99 M3 mc') 40 (by omega) ?_ ?_ (-1, -1, 0, M3) ⟨rfl, rfl, rfl, FI.refl _ _ _⟩
    · rintro n h ⟨x, y, z, M4⟩ hh ⟨e1, e2, e3, f⟩
      dsimp only at e1 e2 e3 f
      subst e1 e2 e3
      left
      obtain ⟨M5, g1, g2⟩ := c_alike (sm := stoodB K k) (f := fun x => inN K k x h) (h := h) (mc := M4) hh (fun a _ => Nat.le_trans (cntN_le _ _) n8) (fun a ha => by rw [f 97 (by omega)]; exact p3 a h ha hh)
      refine ⟨(en (argF (fun h => some (askN K k h)) (h + 1)), en (minF (fun h => some (askN K k h)) (h + 1)), nI (h + 1), M5), ?_, rfl, rfl, rfl, f.trans g2⟩
      show F9_ask_p41 _ _ (nI (bitsN (stoodB K k) 10)) (en (argF (fun h => some (askN K k h)) h)) (en (minF (fun h => some (askN K k h)) h)) (nI h) M4 = _
      unfold F9_ask_p41 F9_ask_b70
      unfold F9_ask_b77
      rw [if_neg (show ¬ (40 : Int32) ≤ nI h from nI_ge (b := 40) hh (by decide)), g1, Option.bind_some, nI_1 h, argF_s, minF_s]
      dsimp only
      rw [show alkN (stoodB K k) (fun x => inN K k x h) 10 = askN K k h from rfl]
      have hg := askN_le K k h
      cases d : minF (fun h => some (askN K k h)) h with
      | none => rw [if_pos (show en none = -1 from rfl)]; rfl
      | some b =>
        have hb := minF_lt (c := 11) glt d
        rw [if_neg (show ¬ en (some b) = -1 from nI_ne1 (by omega))]
        simp only [en, leI (show b < 2 ^ 31 by omega) (show askN K k h < 2 ^ 31 by omega)]
        by_cases e : b ≤ askN K k h
        · rw [if_pos e, if_neg (by omega), if_neg (by omega)]
        · rw [if_neg e, if_pos (by omega), if_pos (by omega)]
    · rintro n ⟨x, y, z, M4⟩ ⟨e1, e2, e3, f⟩
      dsimp only at e1 e2 e3 f
      refine ⟨M4, ?_, f⟩
      show F9_ask_p41 _ _ _ x y z M4 = _
      unfold F9_ask_p41 aAskOf
      rw [e1, e3, if_pos (show (40 : Int32) ≤ nI 40 from nI_le (a := 40) (Nat.le_refl _) (by decide))]
  · rw [if_neg c, if_neg c]
    exact ⟨mc, rfl, FC.refl mc, I⟩

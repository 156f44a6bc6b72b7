/-! Pure part: contented cells, chains against subsets. -/
/-- a chain of n cells, each at its wish, that ends with cell j -/
def rl_ck (S W : Nat → Nat) (L : Nat) : Nat → Nat → Prop
  | 0 => fun _ => False
  | n + 1 => fun j => S j + W j ≤ L ∧ (n = 0 ∨ ∃ i, i < j ∧ S i + W i ≤ S j ∧ rl_ck S W L n i)
theorem rl_ck_0 {S W : Nat → Nat} {L j : Nat} : ¬ rl_ck S W L 0 j := fun h => h
theorem rl_ck_s {S W : Nat → Nat} {L n j : Nat} : rl_ck S W L (n + 1) j ↔ S j + W j ≤ L ∧ (n = 0 ∨ ∃ i, i < j ∧ S i + W i ≤ S j ∧ rl_ck S W L n i) := Iff.rfl
/-- q is the length of the longest chain that ends with cell j -/
def rl_Q (S W : Nat → Nat) (L j q : Nat) : Prop := (q = 0 ∨ rl_ck S W L q j) ∧ ∀ n, rl_ck S W L n j → n ≤ q
/-- the longest among the first i that may stand ahead of cell j -/
def rl_P (S W : Nat → Nat) (L j i q : Nat) : Prop := (q = 0 ∨ ∃ a, a < i ∧ S a + W a ≤ S j ∧ rl_ck S W L q a) ∧ ∀ a, a < i → S a + W a ≤ S j → ∀ n, rl_ck S W L n a → n ≤ q
/-- the longest of all chains among the first c -/
def rl_M (S W : Nat → Nat) (L c q : Nat) : Prop := (q = 0 ∨ ∃ a, a < c ∧ rl_ck S W L q a) ∧ ∀ a, a < c → ∀ n, rl_ck S W L n a → n ≤ q
theorem rl_Q_bad {S W : Nat → Nat} {L j : Nat} (h : L < S j + W j) : rl_Q S W L j 0 := by
  refine ⟨Or.inl rfl, fun n hn => ?_⟩
  cases n with
  | zero => exact Nat.le_refl _
  | succ n => have := (rl_ck_s.mp hn).1; omega
theorem rl_P_0 {S W : Nat → Nat} {L j : Nat} : rl_P S W L j 0 0 := ⟨Or.inl rfl, fun a ha => absurd ha (Nat.not_lt_zero a)⟩
theorem rl_P_no {S W : Nat → Nat} {L j i q : Nat} (h : rl_P S W L j i q) (hn : ¬ S i + W i ≤ S j) : rl_P S W L j (i + 1) q := by
  refine ⟨?_, fun a ha h1 n hn' => ?_⟩
  · rcases h.1 with h0 | ⟨a, ha, h1, h2⟩
    · exact Or.inl h0
    · exact Or.inr ⟨a, by omega, h1, h2⟩
  · by_cases e : a = i
    · subst e; exact absurd h1 hn
    · exact h.2 a (by omega) h1 n hn'
theorem rl_P_le {S W : Nat → Nat} {L j i q r : Nat} (h : rl_P S W L j i q) (hQ : rl_Q S W L i r) (hr : r ≤ q) : rl_P S W L j (i + 1) q := by
  refine ⟨?_, fun a ha h1 n hn' => ?_⟩
  · rcases h.1 with h0 | ⟨a, ha, h1, h2⟩
    · exact Or.inl h0
    · exact Or.inr ⟨a, by omega, h1, h2⟩
  · by_cases e : a = i
    · subst e; exact Nat.le_trans (hQ.2 n hn') hr
    · exact h.2 a (by omega) h1 n hn'
theorem rl_P_gt {S W : Nat → Nat} {L j i q r : Nat} (h : rl_P S W L j i q) (hc : S i + W i ≤ S j) (hQ : rl_Q S W L i r) (hr : q < r) : rl_P S W L j (i + 1) r := by
  refine ⟨?_, fun a ha h1 n hn' => ?_⟩
  · rcases hQ.1 with h0 | h0
    · omega
    · exact Or.inr ⟨i, by omega, hc, h0⟩
  · by_cases e : a = i
    · subst e; exact hQ.2 n hn'
    · exact Nat.le_of_lt (Nat.lt_of_le_of_lt (h.2 a (by omega) h1 n hn') hr)
theorem rl_P_end {S W : Nat → Nat} {L j q : Nat} (hj : S j + W j ≤ L) (h : rl_P S W L j j q) : rl_Q S W L j (q + 1) := by
  refine ⟨Or.inr (rl_ck_s.mpr ⟨hj, ?_⟩), fun n hn => ?_⟩
  · rcases h.1 with h0 | ⟨a, ha, h1, h2⟩
    · exact Or.inl h0
    · exact Or.inr ⟨a, ha, h1, h2⟩
  · cases n with
    | zero => exact Nat.zero_le _
    | succ n =>
      rcases (rl_ck_s.mp hn).2 with h0 | ⟨a, ha, h1, h2⟩
      · omega
      · have := h.2 a ha h1 n h2; omega
theorem rl_M_0 {S W : Nat → Nat} {L : Nat} : rl_M S W L 0 0 := ⟨Or.inl rfl, fun a ha => absurd ha (Nat.not_lt_zero a)⟩
theorem rl_M_le {S W : Nat → Nat} {L i q r : Nat} (h : rl_M S W L i q) (hQ : rl_Q S W L i r) (hr : r ≤ q) : rl_M S W L (i + 1) q := by
  refine ⟨?_, fun a ha n hn' => ?_⟩
  · rcases h.1 with h0 | ⟨a, ha, h2⟩
    · exact Or.inl h0
    · exact Or.inr ⟨a, by omega, h2⟩
  · by_cases e : a = i
    · subst e; exact Nat.le_trans (hQ.2 n hn') hr
    · exact h.2 a (by omega) n hn'
theorem rl_M_gt {S W : Nat → Nat} {L i q r : Nat} (h : rl_M S W L i q) (hQ : rl_Q S W L i r) (hr : q < r) : rl_M S W L (i + 1) r := by
  refine ⟨?_, fun a ha n hn' => ?_⟩
  · rcases hQ.1 with h0 | h0
    · omega
    · exact Or.inr ⟨i, by omega, h0⟩
  · by_cases e : a = i
    · subst e; exact hQ.2 n hn'
    · exact Nat.le_of_lt (Nat.lt_of_le_of_lt (h.2 a (by omega) n hn') hr)
theorem rl_M_u {S W : Nat → Nat} {L c q r : Nat} (h : rl_M S W L c q) (h' : rl_M S W L c r) : q = r := by
  apply Nat.le_antisymm
  · rcases h.1 with h0 | ⟨a, ha, h2⟩
    · omega
    · exact h'.2 a ha q h2
  · rcases h'.1 with h0 | ⟨a, ha, h2⟩
    · omega
    · exact h.2 a ha r h2
/-- a chain has no more cells than stand up to its last -/
theorem rl_ck_le {S W : Nat → Nat} {L : Nat} : ∀ n j, rl_ck S W L n j → n ≤ j + 1 := by
  intro n
  induction n with
  | zero => intro j _; exact Nat.zero_le _
  | succ n ih =>
    intro j h
    rcases (rl_ck_s.mp h).2 with h0 | ⟨a, ha, _, h2⟩
    · omega
    · have := ih a h2; omega
theorem rl_Q_le {S W : Nat → Nat} {L j q : Nat} (h : rl_Q S W L j q) : q ≤ j + 1 := by
  rcases h.1 with h0 | h0
  · omega
  · exact rl_ck_le q j h0
/-! subsets as numbers -/
def rl_cn (s : Nat) : Nat → Nat
  | 0 => 0
  | i + 1 => rl_cn s i + s / 2 ^ i % 2
theorem rl_cn_s (s i : Nat) : rl_cn s (i + 1) = rl_cn s i + s / 2 ^ i % 2 := rfl
theorem rl_cn_le (s : Nat) : ∀ i, rl_cn s i ≤ i := by
  intro i
  induction i with
  | zero => exact Nat.le_refl _
  | succ i ih => rw [rl_cn_s]; have := Nat.mod_lt (s / 2 ^ i) (show 0 < 2 by decide); omega
def rl_es (S W : Nat → Nat) (L s i : Nat) : Option Nat → Option Nat
  | none => none
  | some e => if s / 2 ^ i % 2 = 1 then (if S i < e ∨ L < S i + W i then none else some (S i + W i)) else some e
def rl_en (S W : Nat → Nat) (L s : Nat) : Nat → Option Nat
  | 0 => some 0
  | i + 1 => rl_es S W L s i (rl_en S W L s i)
theorem rl_en_s (S W : Nat → Nat) (L s i : Nat) : rl_en S W L s (i + 1) = rl_es S W L s i (rl_en S W L s i) := rfl
theorem rl_en_n {S W : Nat → Nat} {L s i : Nat} (h : rl_en S W L s i = none) : ∀ d, rl_en S W L s (i + d) = none := by
  intro d
  induction d with
  | zero => exact h
  | succ d ih => rw [← Nat.add_assoc, rl_en_s, ih]; rfl
theorem rl_es_0 {S W : Nat → Nat} {L s i e : Nat} (hb : ¬ s / 2 ^ i % 2 = 1) : rl_es S W L s i (some e) = some e := if_neg hb
theorem rl_es_1 {S W : Nat → Nat} {L s i e : Nat} (hb : s / 2 ^ i % 2 = 1) (h : ¬ (S i < e ∨ L < S i + W i)) : rl_es S W L s i (some e) = some (S i + W i) := by
  show (if s / 2 ^ i % 2 = 1 then (if S i < e ∨ L < S i + W i then none else some (S i + W i)) else some e) = _
  rw [if_pos hb, if_neg h]
theorem rl_es_b {S W : Nat → Nat} {L s i e : Nat} (hb : s / 2 ^ i % 2 = 1) (h : S i < e ∨ L < S i + W i) : rl_es S W L s i (some e) = none := by
  show (if s / 2 ^ i % 2 = 1 then (if S i < e ∨ L < S i + W i then none else some (S i + W i)) else some e) = _
  rw [if_pos hb, if_pos h]
theorem rl_en_ck {S W : Nat → Nat} {L s : Nat} : ∀ i e, rl_en S W L s i = some e → (rl_cn s i = 0 ∧ e = 0) ∨ ∃ j, j < i ∧ rl_ck S W L (rl_cn s i) j ∧ e = S j + W j := by
  intro i
  induction i with
  | zero =>
    intro e h
    have h' : some 0 = some e := h
    exact Or.inl ⟨rfl, (Option.some.inj h').symm⟩
  | succ i ih =>
    intro e h
    rw [rl_en_s] at h
    rw [rl_cn_s]
    cases h0 : rl_en S W L s i with
    | none => rw [h0] at h; exact absurd h (by intro z; cases z)
    | some e0 =>
      rw [h0] at h
      by_cases hb : s / 2 ^ i % 2 = 1
      · by_cases hq : S i < e0 ∨ L < S i + W i
        · rw [rl_es_b hb hq] at h; exact absurd h (by intro z; cases z)
        · rw [rl_es_1 hb hq] at h
          have he := Option.some.inj h
          refine Or.inr ⟨i, by omega, ?_, he.symm⟩
          rw [hb]
          refine rl_ck_s.mpr ⟨by omega, ?_⟩
          rcases ih e0 h0 with ⟨h1, _⟩ | ⟨j, hj, h1, h2⟩
          · exact Or.inl h1
          · exact Or.inr ⟨j, hj, by omega, h1⟩
      · rw [rl_es_0 hb] at h
        have he := Option.some.inj h
        subst he
        have hz : s / 2 ^ i % 2 = 0 := by have := Nat.mod_lt (s / 2 ^ i) (show 0 < 2 by decide); omega
        rw [hz, Nat.add_zero]
        rcases ih e0 h0 with h1 | ⟨j, hj, h1, h2⟩
        · exact Or.inl h1
        · exact Or.inr ⟨j, by omega, h1, h2⟩
theorem rl_bit_lo {t j i : Nat} (h : i < j) : (t + 2 ^ j) / 2 ^ i % 2 = t / 2 ^ i % 2 := by
  obtain ⟨d, rfl⟩ : ∃ d, j = i + (d + 1) := ⟨j - i - 1, by omega⟩
  have e : 2 ^ (i + (d + 1)) = 2 ^ i * (2 * 2 ^ d) := by rw [Nat.pow_add, Nat.pow_succ, Nat.mul_comm (2 ^ d)]
  rw [e, Nat.add_mul_div_left _ _ (Nat.two_pow_pos i), Nat.add_mul_mod_self_left]
theorem rl_bit_at {t j : Nat} (h : t < 2 ^ j) : (t + 2 ^ j) / 2 ^ j % 2 = 1 := by
  have h1 : (t + 2 ^ j) / 2 ^ j = t / 2 ^ j + 1 := Nat.add_div_right t (Nat.two_pow_pos j)
  exact congrArg (fun x => x % 2) (h1.trans (congrArg (fun x => x + 1) (Nat.div_eq_of_lt h)))
theorem rl_bit_hi {s m i : Nat} (h : s < 2 ^ m) (hi : m ≤ i) : ¬ s / 2 ^ i % 2 = 1 := by
  rw [Nat.div_eq_of_lt (Nat.lt_of_lt_of_le h (Nat.pow_le_pow_right (by decide) hi))]
  decide
theorem rl_low {S W : Nat → Nat} {L s t : Nat} : ∀ i, (∀ k, k < i → s / 2 ^ k % 2 = t / 2 ^ k % 2) → rl_cn s i = rl_cn t i ∧ rl_en S W L s i = rl_en S W L t i := by
  intro i
  induction i with
  | zero => intro _; exact ⟨rfl, rfl⟩
  | succ i ih =>
    intro h
    obtain ⟨h1, h2⟩ := ih (fun k hk => h k (by omega))
    have h3 := h i (by omega)
    refine ⟨by rw [rl_cn_s, rl_cn_s, h1, h3], ?_⟩
    rw [rl_en_s, rl_en_s, h2]
    cases rl_en S W L t i with
    | none => rfl
    | some e => unfold rl_es; rw [h3]
theorem rl_high {S W : Nat → Nat} {L s m : Nat} (h : s < 2 ^ m) : ∀ d, rl_cn s (m + d) = rl_cn s m ∧ rl_en S W L s (m + d) = rl_en S W L s m := by
  intro d
  induction d with
  | zero => exact ⟨rfl, rfl⟩
  | succ d ih =>
    obtain ⟨h1, h2⟩ := ih
    have hb := rl_bit_hi h (Nat.le_add_right m d)
    have hz : s / 2 ^ (m + d) % 2 = 0 := by have := Nat.mod_lt (s / 2 ^ (m + d)) (show 0 < 2 by decide); omega
    refine ⟨by rw [← Nat.add_assoc, rl_cn_s, h1, hz, Nat.add_zero], ?_⟩
    rw [← Nat.add_assoc, rl_en_s, h2]
    cases rl_en S W L s m with
    | none => rfl
    | some e => exact rl_es_0 hb
theorem rl_zero {S W : Nat → Nat} {L : Nat} (i : Nat) : rl_cn 0 i = 0 ∧ rl_en S W L 0 i = some 0 := by
  have h := rl_high (S := S) (W := W) (L := L) (s := 0) (m := 0) (by decide) i
  rw [Nat.zero_add] at h
  exact h
theorem rl_put {S W : Nat → Nat} {L t j n e : Nat} (ht : t < 2 ^ j) (hn : rl_cn t j = n) (he : rl_en S W L t j = some e) (h1 : e ≤ S j) (h2 : S j + W j ≤ L) : t + 2 ^ j < 2 ^ (j + 1) ∧ rl_cn (t + 2 ^ j) (j + 1) = n + 1 ∧ rl_en S W L (t + 2 ^ j) (j + 1) = some (S j + W j) := by
  obtain ⟨l1, l2⟩ := rl_low (S := S) (W := W) (L := L) (s := t + 2 ^ j) (t := t) j (fun k hk => rl_bit_lo hk)
  refine ⟨by rw [Nat.pow_succ]; omega, by rw [rl_cn_s, l1, hn, rl_bit_at ht], ?_⟩
  rw [rl_en_s, l2, he]
  exact rl_es_1 (rl_bit_at ht) (by omega)
theorem rl_ck_set {S W : Nat → Nat} {L : Nat} : ∀ n j, rl_ck S W L n j → ∃ s, s < 2 ^ (j + 1) ∧ rl_cn s (j + 1) = n ∧ rl_en S W L s (j + 1) = some (S j + W j) := by
  intro n
  induction n with
  | zero => intro j h; exact absurd h rl_ck_0
  | succ n ih =>
    intro j h
    obtain ⟨h2, h3⟩ := rl_ck_s.mp h
    rcases h3 with h0 | ⟨i, hi, h4, h5⟩
    · subst h0
      obtain ⟨z1, z2⟩ := rl_zero (S := S) (W := W) (L := L) j
      exact ⟨_, rl_put (Nat.two_pow_pos j) z1 z2 (Nat.zero_le _) h2⟩
    · obtain ⟨t, t1, t2, t3⟩ := ih i h5
      obtain ⟨d, hd⟩ : ∃ d, j = (i + 1) + d := ⟨j - (i + 1), by omega⟩
      obtain ⟨g1, g2⟩ := rl_high (S := S) (W := W) (L := L) t1 d
      rw [← hd] at g1 g2
      exact ⟨_, rl_put (Nat.lt_of_lt_of_le t1 (Nat.pow_le_pow_right (by decide) (by omega))) (g1.trans t2) (g2.trans t3) h4 h2⟩
/-- the greatest count among the sets below m -/
def rl_Y (S W : Nat → Nat) (L c m q : Nat) : Prop := (q = 0 ∨ ∃ s e, rl_en S W L s c = some e ∧ rl_cn s c = q) ∧ ∀ s, s < m → ∀ e, rl_en S W L s c = some e → rl_cn s c ≤ q
theorem rl_Y_0 {S W : Nat → Nat} {L c : Nat} : rl_Y S W L c 0 0 := ⟨Or.inl rfl, fun s hs => absurd hs (Nat.not_lt_zero s)⟩
theorem rl_Y_le {S W : Nat → Nat} {L c m q : Nat} (h : rl_Y S W L c m q) (hm : rl_cn m c ≤ q) : rl_Y S W L c (m + 1) q := by
  refine ⟨h.1, fun s hs e he => ?_⟩
  by_cases z : s = m
  · subst z; exact hm
  · exact h.2 s (by omega) e he
theorem rl_Y_no {S W : Nat → Nat} {L c m q : Nat} (h : rl_Y S W L c m q) (hm : rl_en S W L m c = none) : rl_Y S W L c (m + 1) q := by
  refine ⟨h.1, fun s hs e he => ?_⟩
  by_cases z : s = m
  · subst z; rw [hm] at he; cases he
  · exact h.2 s (by omega) e he
theorem rl_Y_gt {S W : Nat → Nat} {L c m q e : Nat} (h : rl_Y S W L c m q) (hm : rl_en S W L m c = some e) (hq : q < rl_cn m c) : rl_Y S W L c (m + 1) (rl_cn m c) := by
  refine ⟨Or.inr ⟨m, e, hm, rfl⟩, fun s hs e he => ?_⟩
  by_cases z : s = m
  · subst z; exact Nat.le_refl _
  · have := h.2 s (by omega) e he; omega
theorem rl_Y_end {S W : Nat → Nat} {L c q : Nat} (h : rl_Y S W L c (2 ^ c) q) : rl_M S W L c q := by
  refine ⟨?_, fun a ha n hn => ?_⟩
  · rcases h.1 with h0 | ⟨s, e, h1, h2⟩
    · exact Or.inl h0
    · rcases rl_en_ck c e h1 with ⟨h3, _⟩ | ⟨j, hj, h3, _⟩
      · exact Or.inl (h2.symm.trans h3)
      · rw [h2] at h3; exact Or.inr ⟨j, hj, h3⟩
  · obtain ⟨s, s1, s2, s3⟩ := rl_ck_set n a hn
    obtain ⟨d, hd⟩ : ∃ d, c = (a + 1) + d := ⟨c - (a + 1), by omega⟩
    obtain ⟨g1, g2⟩ := rl_high (S := S) (W := W) (L := L) s1 d
    rw [← hd] at g1 g2
    have h4 := h.2 s (Nat.lt_of_lt_of_le s1 (Nat.pow_le_pow_right (by decide) (by omega))) _ (g2.trans s3)
    rw [g1, s2] at h4
    exact h4

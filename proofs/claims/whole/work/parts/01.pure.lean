/-! Pure part: least costs by running minima, from the left and from the right. -/
def rl_lm (f : Nat → Nat) : Nat → Nat
  | 0 => 1000000
  | n + 1 => min (rl_lm f n) (f n)
theorem rl_lm_s (f : Nat → Nat) (n : Nat) : rl_lm f (n + 1) = min (rl_lm f n) (f n) := rfl
theorem rl_lm_le (f : Nat → Nat) : ∀ n, rl_lm f n ≤ 1000000 := by
  intro n
  induction n with
  | zero => exact Nat.le_refl _
  | succ n ih => rw [rl_lm_s]; omega
theorem rl_lm_add {f : Nat → Nat} {a k : Nat} (hk : k ≤ 1000000) : ∀ n, (k ≤ rl_lm f n + a ↔ ∀ y, y < n → k ≤ f y + a) := by
  intro n
  induction n with
  | zero =>
    refine ⟨fun _ y hy => absurd hy (Nat.not_lt_zero y), fun _ => ?_⟩
    show k ≤ 1000000 + a
    omega
  | succ n ih =>
    rw [rl_lm_s]
    constructor
    · intro h y hy
      by_cases e : y = n
      · subst e; omega
      · exact ih.mp (by omega) y (by omega)
    · intro h
      have h1 := ih.mpr (fun y hy => h y (by omega))
      have h2 := h n (by omega)
      omega
theorem rl_lm_ge {f : Nat → Nat} {k : Nat} (hk : k ≤ 1000000) (n : Nat) : k ≤ rl_lm f n ↔ ∀ y, y < n → k ≤ f y := by
  have h := rl_lm_add (f := f) (a := 0) hk n
  exact h
theorem rl_lm_at {f : Nat → Nat} {n y : Nat} (h : y < n) : rl_lm f n ≤ f y :=
  (rl_lm_ge (rl_lm_le f n) n).mp (Nat.le_refl _) y h
theorem rl_lm_mono {f : Nat → Nat} {n m : Nat} (h : n ≤ m) : rl_lm f m ≤ rl_lm f n :=
  (rl_lm_ge (rl_lm_le f m) n).mpr (fun _ hy => rl_lm_at (Nat.lt_of_lt_of_le hy h))
theorem rl_lm_cg {f g : Nat → Nat} (n : Nat) (h : ∀ y, y < n → f y = g y) : rl_lm f n = rl_lm g n := by
  induction n with
  | zero => rfl
  | succ n ih => rw [rl_lm_s, rl_lm_s, ih (fun y hy => h y (by omega)), h n (by omega)]
theorem rl_lm_b {f : Nat → Nat} {M : Nat} (h : ∀ y, f y ≤ M ∨ f y = 1000000) : ∀ n, rl_lm f n ≤ M ∨ rl_lm f n = 1000000 := by
  intro n
  induction n with
  | zero => exact Or.inr rfl
  | succ n ih => rw [rl_lm_s]; have := h n; omega
/-- the first place of the least value, by where the running minimum last fell -/
theorem rl_first {f : Nat → Nat} {e r : Nat} (hf : ∀ y, f y ≤ 1000000) (hr : r ≤ e) (h1 : rl_lm f (r + 1) = rl_lm f (e + 1)) (h2 : r = 0 ∨ rl_lm f r ≠ rl_lm f (r + 1)) : f r = rl_lm f (e + 1) ∧ ∀ x, x < r → f x ≠ rl_lm f (e + 1) := by
  have hs := rl_lm_s f r
  rcases h2 with h2 | h2
  · subst h2
    have h0 : rl_lm f 0 = 1000000 := rfl
    have := hf 0
    exact ⟨by omega, fun x hx => absurd hx (Nat.not_lt_zero x)⟩
  · refine ⟨by omega, fun x hx => ?_⟩
    have := rl_lm_at (f := f) hx
    omega
def rl_U (o : Nat → Nat → Nat) (W : Nat → Nat) : Nat → Nat → Nat
  | 0 => fun x => min (o 0 x) 1000000
  | i + 1 => fun x => min (rl_lm (rl_U o W i) (x + 1 - W i) + o (i + 1) x) 1000000
def rl_B (o : Nat → Nat → Nat) (W : Nat → Nat) : Nat → Nat → Nat
  | 0 => fun _ => 0
  | i + 1 => fun x => rl_lm (rl_U o W i) (x + 1 - W i)
theorem rl_B_s (o : Nat → Nat → Nat) (W : Nat → Nat) (i x : Nat) : rl_B o W (i + 1) x = rl_lm (rl_U o W i) (x + 1 - W i) := rfl
theorem rl_U_eq (o : Nat → Nat → Nat) (W : Nat → Nat) (i x : Nat) : rl_U o W i x = min (rl_B o W i x + o i x) 1000000 := by
  cases i with
  | zero =>
    show min (o 0 x) 1000000 = min (0 + o 0 x) 1000000
    rw [Nat.zero_add]
  | succ i => rfl
theorem rl_U_le (o : Nat → Nat → Nat) (W : Nat → Nat) (i x : Nat) : rl_U o W i x ≤ 1000000 := by
  rw [rl_U_eq]; omega
theorem rl_U_cg {o o' : Nat → Nat → Nat} {W : Nat → Nat} : ∀ i, (∀ j, j ≤ i → ∀ x, o j x = o' j x) → ∀ x, rl_U o W i x = rl_U o' W i x := by
  intro i
  induction i with
  | zero =>
    intro h x
    show min (o 0 x) 1000000 = min (o' 0 x) 1000000
    rw [h 0 (Nat.le_refl _) x]
  | succ i ih =>
    intro h x
    have hi := ih (fun j hj => h j (by omega))
    rw [rl_U_eq, rl_U_eq, rl_B_s, rl_B_s, rl_lm_cg _ (fun y _ => hi y), h (i + 1) (Nat.le_refl _) x]
theorem rl_U_b {o : Nat → Nat → Nat} {W : Nat → Nat} (ho : ∀ i x, o i x ≤ 300 ∨ o i x = 1000000) : ∀ i x, rl_U o W i x ≤ 300 * (i + 1) ∨ rl_U o W i x = 1000000 := by
  intro i
  induction i with
  | zero =>
    intro x
    have h := ho 0 x
    have e : rl_U o W 0 x = min (o 0 x) 1000000 := rfl
    omega
  | succ i ih =>
    intro x
    have h := ho (i + 1) x
    have hl := rl_lm_b ih (x + 1 - W i)
    rw [rl_U_eq, rl_B_s]
    omega
def rl_hm (f : Nat → Nat) : Nat → Nat
  | 0 => 1000000
  | d + 1 => min (rl_hm f d) (f (60 - d))
theorem rl_hm_s (f : Nat → Nat) (d : Nat) : rl_hm f (d + 1) = min (rl_hm f d) (f (60 - d)) := rfl
theorem rl_hm_le (f : Nat → Nat) : ∀ n, rl_hm f n ≤ 1000000 := by
  intro n
  induction n with
  | zero => exact Nat.le_refl _
  | succ n ih => rw [rl_hm_s]; omega
theorem rl_hm_b {f : Nat → Nat} {M : Nat} (h : ∀ y, f y ≤ M ∨ f y = 1000000) : ∀ n, rl_hm f n ≤ M ∨ rl_hm f n = 1000000 := by
  intro n
  induction n with
  | zero => exact Or.inr rfl
  | succ n ih => rw [rl_hm_s]; have := h (60 - n); omega
theorem rl_hm_add {f : Nat → Nat} {a k : Nat} (hk : k ≤ 1000000) : ∀ d, d ≤ 61 → (k ≤ rl_hm f d + a ↔ ∀ z, z < 61 → 61 - d ≤ z → k ≤ f z + a) := by
  intro d
  induction d with
  | zero =>
    intro _
    refine ⟨fun _ z hz hz' => absurd hz (by omega), fun _ => ?_⟩
    show k ≤ 1000000 + a
    omega
  | succ d ih =>
    intro hd
    have ih := ih (by omega)
    rw [rl_hm_s]
    constructor
    · intro h z hz hz'
      by_cases e : z = 60 - d
      · subst e; omega
      · exact ih.mp (by omega) z hz (by omega)
    · intro h
      have h1 := ih.mpr (fun z hz hz' => h z hz (by omega))
      have h2 := h (60 - d) (by omega) (by omega)
      omega
def rl_D (o : Nat → Nat → Nat) (W : Nat → Nat) (c : Nat) : Nat → Nat → Nat
  | 0 => fun x => min (o (c - 1) x) 1000000
  | j + 1 => fun x => min (rl_hm (rl_D o W c j) (61 - (x + W (c - 1 - (j + 1)))) + o (c - 1 - (j + 1)) x) 1000000
def rl_R (o : Nat → Nat → Nat) (W : Nat → Nat) (c : Nat) : Nat → Nat → Nat
  | 0 => fun _ => 0
  | j + 1 => fun x => rl_hm (rl_D o W c j) (61 - (x + W (c - 1 - (j + 1))))
theorem rl_R_s (o : Nat → Nat → Nat) (W : Nat → Nat) (c j x : Nat) : rl_R o W c (j + 1) x = rl_hm (rl_D o W c j) (61 - (x + W (c - 1 - (j + 1)))) := rfl
theorem rl_D_eq (o : Nat → Nat → Nat) (W : Nat → Nat) (c j x : Nat) : rl_D o W c j x = min (rl_R o W c j x + o (c - 1 - j) x) 1000000 := by
  cases j with
  | zero =>
    show min (o (c - 1) x) 1000000 = min (0 + o (c - 1) x) 1000000
    rw [Nat.zero_add]
  | succ j => rfl
theorem rl_D_b {o : Nat → Nat → Nat} {W : Nat → Nat} {c : Nat} (ho : ∀ i x, o i x ≤ 300 ∨ o i x = 1000000) : ∀ j x, rl_D o W c j x ≤ 300 * (j + 1) ∨ rl_D o W c j x = 1000000 := by
  intro j
  induction j with
  | zero =>
    intro x
    have h := ho (c - 1) x
    have e : rl_D o W c 0 x = min (o (c - 1) x) 1000000 := rfl
    omega
  | succ j ih =>
    intro x
    have h := ho (c - 1 - (j + 1)) x
    have hl := rl_hm_b ih (61 - (x + W (c - 1 - (j + 1))))
    rw [rl_D_eq, rl_R_s]
    omega
theorem rl_R_b {o : Nat → Nat → Nat} {W : Nat → Nat} {c : Nat} (ho : ∀ i x, o i x ≤ 300 ∨ o i x = 1000000) : ∀ j x, rl_R o W c j x ≤ 300 * j ∨ rl_R o W c j x = 1000000 := by
  intro j x
  cases j with
  | zero => exact Or.inl (Nat.zero_le _)
  | succ j => rw [rl_R_s]; exact rl_hm_b (rl_D_b ho j) _
/-- what the whole row costs, seen from the cell that is j from the end -/
def rl_F (o o' : Nat → Nat → Nat) (W : Nat → Nat) (c j : Nat) : Nat := rl_lm (fun y => rl_U o' W (c - 1 - j) y + rl_R o W c j y) 61
theorem rl_F_ge (o o' : Nat → Nat → Nat) (W : Nat → Nat) (c j : Nat) {k : Nat} (hk : k ≤ 1000000) : k ≤ rl_F o o' W c j ↔ ∀ y, y < 61 → k ≤ rl_U o' W (c - 1 - j) y + rl_R o W c j y := rl_lm_ge hk 61
theorem rl_F_l {o o' : Nat → Nat → Nat} {W : Nat → Nat} {c j : Nat} {k : Nat} (hk : k ≤ 1000000) : k ≤ rl_F o o' W c (j + 1) ↔ ∀ y z, y < 61 → z < 61 → y + W (c - 1 - (j + 1)) ≤ z → k ≤ rl_U o' W (c - 1 - (j + 1)) y + (o (c - 1 - j) z + rl_R o W c j z) := by
  rw [rl_F_ge _ _ _ _ _ hk]
  constructor
  · intro h y z hy hz hyz
    have h1 := h y hy
    rw [rl_R_s, Nat.add_comm, rl_hm_add hk (61 - (y + W (c - 1 - (j + 1)))) (by omega)] at h1
    have h2 := h1 z hz (by omega)
    rw [rl_D_eq] at h2
    omega
  · intro h y hy
    rw [rl_R_s, Nat.add_comm, rl_hm_add hk (61 - (y + W (c - 1 - (j + 1)))) (by omega)]
    intro z hz hz'
    have h2 := h y z hy hz (by omega)
    rw [rl_D_eq]
    omega
theorem rl_F_r {o o' : Nat → Nat → Nat} {W : Nat → Nat} {c j i : Nat} (hi : c - 1 - j = i + 1) (ho : ∀ x, o' (i + 1) x = o (i + 1) x) {k : Nat} (hk : k ≤ 1000000) : k ≤ rl_F o o' W c j ↔ ∀ y z, y < 61 → z < 61 → y + W i ≤ z → k ≤ rl_U o' W i y + (o (i + 1) z + rl_R o W c j z) := by
  rw [rl_F_ge _ _ _ _ _ hk, hi]
  constructor
  · intro h y z hy hz hyz
    have h1 := h z hz
    rw [rl_U_eq, rl_B_s, ho] at h1
    have h2 : k ≤ rl_lm (rl_U o' W i) (z + 1 - W i) + (o (i + 1) z + rl_R o W c j z) := by omega
    exact (rl_lm_add hk _).mp h2 y (by omega)
  · intro h z hz
    rw [rl_U_eq, rl_B_s, ho]
    have h2 : k ≤ rl_lm (rl_U o' W i) (z + 1 - W i) + (o (i + 1) z + rl_R o W c j z) := (rl_lm_add hk _).mpr (fun y hy => h y z (by omega) hz (by omega))
    omega
theorem rl_F_step {o o' : Nat → Nat → Nat} {W : Nat → Nat} {c j : Nat} (hj : j + 1 < c) (ho : ∀ x, o' (c - 1 - j) x = o (c - 1 - j) x) : rl_F o o' W c (j + 1) = rl_F o o' W c j := by
  have hi : c - 1 - j = (c - 1 - (j + 1)) + 1 := by omega
  have ho' : ∀ x, o' ((c - 1 - (j + 1)) + 1) x = o ((c - 1 - (j + 1)) + 1) x := by rw [← hi]; exact ho
  have key : ∀ k, k ≤ 1000000 → (k ≤ rl_F o o' W c (j + 1) ↔ k ≤ rl_F o o' W c j) := by
    intro k hk
    rw [rl_F_l hk, rl_F_r hi ho' hk, hi]
  exact Nat.le_antisymm ((key _ (rl_lm_le _ _)).mp (Nat.le_refl _)) ((key _ (rl_lm_le _ _)).mpr (Nat.le_refl _))
theorem rl_F_all {o o' : Nat → Nat → Nat} {W : Nat → Nat} {c p : Nat} (ho : ∀ i, p < i → ∀ x, o' i x = o i x) : ∀ j, j + p < c → rl_F o o' W c j = rl_lm (rl_U o' W (c - 1)) 61 := by
  intro j
  induction j with
  | zero =>
    intro _
    exact rl_lm_cg _ (fun y _ => rfl)
  | succ j ih =>
    intro hj
    rw [rl_F_step (W := W) (c := c) (j := j) (by omega) (ho (c - 1 - j) (by omega)), ih (by omega)]
theorem rl_pin_ar {U R m : Nat} (hU : U ≤ 3000 ∨ U = 1000000) (hR : R ≤ 3000 ∨ R = 1000000) (hm : m ≤ 300) : (min (U + R) 1000000 = 1000000 ↔ min (U + min (R + m) 1000000) 1000000 = 1000000) ∧ (min (U + min (R + m) 1000000) 1000000 ≠ 1000000 → min (U + min (R + m) 1000000) 1000000 = min (U + R) 1000000 + m) := by omega
/-- one cell pinned: from the left with the pin = from both sides without it -/
theorem rl_pin {o o' : Nat → Nat → Nat} {W : Nat → Nat} {c p e : Nat} (hb : ∀ i x, o i x ≤ 300 ∨ o i x = 1000000) (hp : p < c) (hc : c ≤ 10) (he : e < 61) (hm : o p e ≤ 300) (ho : ∀ i, i ≠ p → ∀ x, o' i x = o i x) (hpe : o' p e = o p e) (hpn : ∀ x, x ≠ e → o' p x = 1000000) :
    (rl_lm (rl_U o' W (c - 1)) 61 = 1000000 ↔ min (rl_U o W p e + rl_D o W c (c - 1 - p) e) 1000000 = 1000000) ∧ (min (rl_U o W p e + rl_D o W c (c - 1 - p) e) 1000000 ≠ 1000000 → min (rl_U o W p e + rl_D o W c (c - 1 - p) e) 1000000 = rl_lm (rl_U o' W (c - 1)) 61 + o p e) := by
  have hF := rl_F_all (W := W) (c := c) (p := p) (o := o) (o' := o') (fun i hi => ho i (by omega)) (c - 1 - p) (by omega)
  have hcp : c - 1 - (c - 1 - p) = p := by omega
  have hB : ∀ x, rl_B o' W p x = rl_B o W p x := by
    intro x
    cases p with
    | zero => rfl
    | succ q => 
      rw [rl_B_s, rl_B_s]
      exact rl_lm_cg _ (fun y _ => rl_U_cg q (fun j hj x => ho j (by omega) x) y)
  have hUe : rl_U o' W p e = rl_U o W p e := by rw [rl_U_eq, rl_U_eq, hB, hpe]
  have hUn : ∀ x, x ≠ e → rl_U o' W p x = 1000000 := by
    intro x hx
    rw [rl_U_eq, hpn x hx]; exact Nat.min_eq_right (Nat.le_add_left _ _)
  have hV : rl_F o o' W c (c - 1 - p) = min (rl_U o W p e + rl_R o W c (c - 1 - p) e) 1000000 := by
    apply Nat.le_antisymm
    · have h1 : rl_F o o' W c (c - 1 - p) ≤ rl_U o' W (c - 1 - (c - 1 - p)) e + rl_R o W c (c - 1 - p) e := rl_lm_at (f := fun y => rl_U o' W (c - 1 - (c - 1 - p)) y + rl_R o W c (c - 1 - p) y) he
      have h2 : rl_F o o' W c (c - 1 - p) ≤ 1000000 := rl_lm_le _ _
      rw [hcp, hUe] at h1
      omega
    · rw [rl_F_ge o o' W c (c - 1 - p) (k := min (rl_U o W p e + rl_R o W c (c - 1 - p) e) 1000000) (Nat.min_le_right _ _), hcp]
      intro y hy
      by_cases ey : y = e
      · rw [ey, hUe]; omega
      · rw [hUn y ey]; omega
  rw [← hF, hV, rl_D_eq, hcp]
  have hRb := rl_R_b (W := W) (c := c) hb (c - 1 - p) e
  have hUb := rl_U_b (W := W) hb p e
  exact rl_pin_ar (by omega) (by omega) hm
/-! the first place of the least value, as a scan from the right finds it -/
def rl_fi (f : Nat → Nat) : Nat → Nat
  | 0 => 0
  | e + 1 => if rl_lm f (e + 1) = rl_lm f (e + 2) then rl_fi f e else e + 1
theorem rl_fi_s (f : Nat → Nat) (e : Nat) : rl_fi f (e + 1) = if rl_lm f (e + 1) = rl_lm f (e + 2) then rl_fi f e else e + 1 := rfl
theorem rl_fi_sp (f : Nat → Nat) : ∀ e, rl_fi f e ≤ e ∧ rl_lm f (rl_fi f e + 1) = rl_lm f (e + 1) ∧ (rl_fi f e = 0 ∨ rl_lm f (rl_fi f e) ≠ rl_lm f (rl_fi f e + 1)) := by
  intro e
  induction e with
  | zero => exact ⟨Nat.le_refl _, rfl, Or.inl rfl⟩
  | succ e ih =>
    rw [rl_fi_s]
    by_cases h : rl_lm f (e + 1) = rl_lm f (e + 2)
    · rw [if_pos h]
      exact ⟨by omega, ih.2.1.trans h, ih.2.2⟩
    · rw [if_neg h]
      exact ⟨Nat.le_refl _, rfl, Or.inr h⟩
/-- the latest place that is left for the cell that is d from the end -/
def rl_la (o : Nat → Nat → Nat) (W : Nat → Nat) (c : Nat) : Nat → Nat
  | 0 => 60
  | d + 1 => rl_fi (rl_U o W (c - 1 - d)) (rl_la o W c d) - W (c - 1 - (d + 1))
/-- where it stands -/
def rl_ed (o : Nat → Nat → Nat) (W : Nat → Nat) (c d : Nat) : Nat := rl_fi (rl_U o W (c - 1 - d)) (rl_la o W c d)
/-- what it and those on its left cost -/
def rl_du (o : Nat → Nat → Nat) (W : Nat → Nat) (c d : Nat) : Nat := rl_lm (rl_U o W (c - 1 - d)) (rl_la o W c d + 1)
theorem rl_la_s (o : Nat → Nat → Nat) (W : Nat → Nat) (c d : Nat) : rl_la o W c (d + 1) = rl_ed o W c d - W (c - 1 - (d + 1)) := rfl
theorem rl_ed_ok (o : Nat → Nat → Nat) (W : Nat → Nat) (c d : Nat) : rl_ed o W c d ≤ rl_la o W c d ∧ rl_U o W (c - 1 - d) (rl_ed o W c d) = rl_du o W c d ∧ ∀ x, x < rl_ed o W c d → rl_U o W (c - 1 - d) x ≠ rl_du o W c d := by
  obtain ⟨h1, h2, h3⟩ := rl_fi_sp (rl_U o W (c - 1 - d)) (rl_la o W c d)
  exact ⟨h1, rl_first (fun y => rl_U_le o W _ y) h1 h2 h3⟩
theorem rl_du_s {o : Nat → Nat → Nat} {W : Nat → Nat} {c d : Nat} (hd : d + 1 < c) (h : rl_du o W c d < 1000000) : W (c - 1 - (d + 1)) ≤ rl_ed o W c d ∧ rl_du o W c (d + 1) + o (c - 1 - d) (rl_ed o W c d) = rl_du o W c d := by
  obtain ⟨_, h2, _⟩ := rl_ed_ok o W c d
  have hi : c - 1 - d = (c - 1 - (d + 1)) + 1 := by omega
  have hB : rl_B o W (c - 1 - d) (rl_ed o W c d) = rl_lm (rl_U o W (c - 1 - (d + 1))) (rl_ed o W c d + 1 - W (c - 1 - (d + 1))) := by
    generalize rl_ed o W c d = z
    rw [hi]
    exact rl_B_s o W _ z
  rw [rl_U_eq, hB] at h2
  by_cases hw : W (c - 1 - (d + 1)) ≤ rl_ed o W c d
  · refine ⟨hw, ?_⟩
    have e : rl_la o W c (d + 1) + 1 = rl_ed o W c d + 1 - W (c - 1 - (d + 1)) := by rw [rl_la_s]; omega
    have e2 : rl_du o W c (d + 1) = rl_lm (rl_U o W (c - 1 - (d + 1))) (rl_ed o W c d + 1 - W (c - 1 - (d + 1))) := by rw [← e]; rfl
    rw [e2]
    omega
  · have e : rl_ed o W c d + 1 - W (c - 1 - (d + 1)) = 0 := by omega
    have e0 : rl_lm (rl_U o W (c - 1 - (d + 1))) 0 = 1000000 := rfl
    rw [e, e0] at h2
    omega
theorem rl_path {o : Nat → Nat → Nat} {W : Nat → Nat} {c : Nat} (h0 : rl_lm (rl_U o W (c - 1)) 61 < 1000000) : ∀ d, d < c → rl_la o W c d ≤ 60 ∧ rl_du o W c d < 1000000 := by
  intro d
  induction d with
  | zero => intro _; exact ⟨Nat.le_refl _, h0⟩
  | succ d ih =>
    intro hd
    obtain ⟨h1, h2⟩ := ih (by omega)
    obtain ⟨h3, h4⟩ := rl_du_s hd h2
    obtain ⟨h5, _, _⟩ := rl_ed_ok o W c d
    exact ⟨by rw [rl_la_s]; omega, by omega⟩
/-- the best of the cells on the left before place x is looked at -/
def rl_b (o : Nat → Nat → Nat) (W : Nat → Nat) : Nat → Nat → Nat
  | 0 => fun _ => 0
  | i + 1 => fun x => rl_lm (rl_U o W i) (x - W i)
theorem rl_b_s (o : Nat → Nat → Nat) (W : Nat → Nat) (i x : Nat) : rl_b o W (i + 1) x = rl_lm (rl_U o W i) (x - W i) := rfl
theorem rl_B_b (o : Nat → Nat → Nat) (W : Nat → Nat) (i x : Nat) : rl_B o W i x = rl_b o W i (x + 1) := by
  cases i with
  | zero => rfl
  | succ i => rfl
theorem rl_b_le (o : Nat → Nat → Nat) (W : Nat → Nat) (i x : Nat) : rl_b o W i x ≤ 1000000 := by
  cases i with
  | zero => exact Nat.zero_le _
  | succ i => exact rl_lm_le _ _
theorem rl_B_le (o : Nat → Nat → Nat) (W : Nat → Nat) (i x : Nat) : rl_B o W i x ≤ 1000000 := by rw [rl_B_b]; exact rl_b_le o W i _
theorem rl_R_le (o : Nat → Nat → Nat) (W : Nat → Nat) (c j x : Nat) : rl_R o W c j x ≤ 1000000 := by
  cases j with
  | zero => exact Nat.zero_le _
  | succ j => exact rl_hm_le _ _
theorem rl_D_le (o : Nat → Nat → Nat) (W : Nat → Nat) (c j x : Nat) : rl_D o W c j x ≤ 1000000 := by rw [rl_D_eq]; omega
theorem rl_b_y {o : Nat → Nat → Nat} {W : Nat → Nat} {i x : Nat} (h : W i ≤ x) : rl_b o W (i + 1) (x + 1) = min (rl_b o W (i + 1) x) (rl_U o W i (x - W i)) := by
  rw [rl_b_s, rl_b_s, show x + 1 - W i = x - W i + 1 by omega, rl_lm_s]
theorem rl_b_n {o : Nat → Nat → Nat} {W : Nat → Nat} {i x : Nat} (h : x < W i) : rl_b o W (i + 1) (x + 1) = rl_b o W (i + 1) x := by
  rw [rl_b_s, rl_b_s, show x + 1 - W i = 0 by omega, show x - W i = 0 by omega]
theorem rl_R_y {o : Nat → Nat → Nat} {W : Nat → Nat} {c j x : Nat} (h : x + W (c - 1 - (j + 1)) < 61) : rl_R o W c (j + 1) x = min (rl_R o W c (j + 1) (x + 1)) (rl_D o W c j (x + W (c - 1 - (j + 1)))) := by
  rw [rl_R_s, rl_R_s]
  generalize W (c - 1 - (j + 1)) = w at h ⊢
  rw [show 61 - (x + w) = (61 - (x + 1 + w)) + 1 by omega, rl_hm_s, show 60 - (61 - (x + 1 + w)) = x + w by omega]
theorem rl_R_n {o : Nat → Nat → Nat} {W : Nat → Nat} {c j x : Nat} (h : 61 ≤ x + W (c - 1 - (j + 1))) : rl_R o W c (j + 1) x = rl_R o W c (j + 1) (x + 1) := by
  rw [rl_R_s, rl_R_s]
  generalize W (c - 1 - (j + 1)) = w at h ⊢
  rw [show 61 - (x + w) = 0 by omega, show 61 - (x + 1 + w) = 0 by omega]
theorem rl_R_61 {o : Nat → Nat → Nat} {W : Nat → Nat} {c j : Nat} : rl_R o W c (j + 1) 61 = 1000000 := by
  rw [rl_R_s, show 61 - (61 + W (c - 1 - (j + 1))) = 0 by omega]
  rfl

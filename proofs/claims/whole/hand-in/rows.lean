section
/-! rows of the kit to paste -/
theorem pk_us {f : Nat → Int32} {k : Nat} {x : Int32} : upd f k x k = x := if_pos rfl
theorem pk_un {f : Nat → Int32} {k j : Nat} {x : Int32} (h : j ≠ k) : upd f k x j = f j := if_neg h
theorem pk_sub {a b : Nat} (h : b ≤ a) : nI a - nI b = nI (a - b) := by
  obtain ⟨c, rfl⟩ : ∃ c, a = c + b := ⟨a - b, by omega⟩
  rw [← nI_add, Int32.add_sub_cancel, Nat.add_sub_cancel]
theorem pk_m1 (n : Nat) : nI (n + 1) + (-1) = nI n := by
  rw [← nI_1, Int32.add_assoc, show (1 : Int32) + (-1) = 0 from rfl, Int32.add_zero]
theorem pk_mul (a b : Nat) : nI a * nI b = nI (a * b) := (Int32.ofNat_mul a b).symm
theorem pk_sub_toInt {a b : Nat} (ha : a < 2 ^ 30) (hb : b < 2 ^ 30) : (nI a - nI b).toInt = (a : Int) - b := by
  rw [Int32.toInt_sub, nI_toInt (by omega), nI_toInt (by omega)]
  exact Int.bmod_eq_of_le (by omega) (by omega)
theorem pk_sneg {a b : Nat} (hb : b < 2 ^ 30) (h : a < b) : nI a - nI b < 0 := by
  rw [Int32.lt_iff_toInt_lt, pk_sub_toInt (by omega) hb, show (0 : Int32).toInt = 0 from by decide]
  omega
theorem pk_ix (x : Int32) {n : Nat} (hn : n < 2 ^ 31) : x < 0 ∨ nI n ≤ x ∨ ∃ j : Nat, j < n ∧ x = nI j := by
  by_cases h : x < 0
  · exact Or.inl h
  · obtain ⟨j, hj, rfl⟩ := nI_of h
    by_cases h2 : j < n
    · exact Or.inr (Or.inr ⟨j, h2, rfl⟩)
    · exact Or.inr (Or.inl (nI_le (by omega) hj))
theorem pk_le {x y : Int32} {A B : Prop} (a b : Nat) (f : a ≤ b → A) (g : b < a → B) (hx : x = nI a := by rfl) (hy : y = nI b := by rfl) (ha : a < 2 ^ 31 := by omega) (hb : b < 2 ^ 31 := by omega) : (x ≤ y → A) ∧ (¬ x ≤ y → B) := by
  subst hx hy
  rw [nI_leI ha hb]
  exact ⟨f, fun z => g (by omega)⟩
theorem pk_lt {x y : Int32} {A B : Prop} (a b : Nat) (f : a < b → A) (g : b ≤ a → B) (hx : x = nI a := by rfl) (hy : y = nI b := by rfl) (ha : a < 2 ^ 31 := by omega) (hb : b < 2 ^ 31 := by omega) : (x < y → A) ∧ (¬ x < y → B) := by
  subst hx hy
  rw [nI_ltI ha hb]
  exact ⟨f, fun z => g (by omega)⟩
theorem pk_eq {x y : Int32} {A B : Prop} (a b : Nat) (f : a = b → A) (g : a ≠ b → B) (hx : x = nI a := by rfl) (hy : y = nI b := by rfl) (ha : a < 2 ^ 31 := by omega) (hb : b < 2 ^ 31 := by omega) : (x = y → A) ∧ (¬ x = y → B) := by
  subst hx hy
  rw [nI_eq ha hb]
  exact ⟨f, g⟩
theorem pk_in {x : Int32} (n N : Nat) (h : n < N) (hx : x = nI n := by rfl) (hN : N < 2 ^ 31 := by omega) : vp_in x N := by
  subst hx
  exact vp_in_nI h hN
theorem pk_cl {x : Int32} (n : Nat) (hx : x = nI n := by rfl) (h : n < 2 ^ 31 := by omega) : x.toNatClampNeg = n := by
  subst hx
  exact nI_clamp h
theorem pk_tn {n : Nat} (h : n < 2 ^ 32) : (nI n).toBitVec.toNat = n := Nat.mod_eq_of_lt h
theorem pk_and (x : Int32) {m : Int32} (k : Nat) (hm : m.toBitVec.toNat = 2 ^ k - 1) : x &&& m = nI (x.toBitVec.toNat % 2 ^ k) := by
  apply Int32.toBitVec_inj.mp
  apply BitVec.eq_of_toNat_eq
  rw [Int32.toBitVec_and, BitVec.toNat_and, hm, Nat.and_two_pow_sub_one_eq_mod]
  show _ = (BitVec.ofNat 32 _).toNat
  rw [BitVec.toNat_ofNat]
  exact (Nat.mod_eq_of_lt (Nat.lt_of_le_of_lt (Nat.mod_le _ _) x.toBitVec.isLt)).symm
theorem pk_andN {n : Nat} (h : n < 2 ^ 32) {m : Int32} (k : Nat) (hm : m.toBitVec.toNat = 2 ^ k - 1) : nI n &&& m = nI (n % 2 ^ k) := by
  rw [pk_and _ k hm, pk_tn h]
theorem pk_shl (a s : Int32) (k : Nat) (hs : (s.toBitVec.smod 32).toNat = k) : (a <<< s).toBitVec.toNat = a.toBitVec.toNat * 2 ^ k % 2 ^ 32 := by
  show (a.toBitVec <<< (s.toBitVec.smod 32).toNat).toNat = _
  rw [hs, BitVec.toNat_shiftLeft, Nat.shiftLeft_eq]
theorem pk_shlN {n : Nat} (s : Int32) (k : Nat) (hs : (s.toBitVec.smod 32).toNat = k) (h : n * 2 ^ k < 2 ^ 32) : nI n <<< s = nI (n * 2 ^ k) := by
  apply Int32.toBitVec_inj.mp
  apply BitVec.eq_of_toNat_eq
  have hn : n < 2 ^ 32 := Nat.lt_of_le_of_lt (Nat.le_mul_of_pos_right n (Nat.two_pow_pos k)) h
  rw [pk_shl _ _ k hs, pk_tn hn, pk_tn h, Nat.mod_eq_of_lt h]
theorem pk_shr (a s : Int32) (k : Nat) (hs : (s.toBitVec.smod 32).toNat = k) : (a >>> s).toInt = a.toInt >>> k := by
  show (a.toBitVec.sshiftRight (s.toBitVec.smod 32).toNat).toInt = _
  rw [hs, BitVec.toInt_sshiftRight]
  rfl
theorem pk_shrN {n : Nat} (h : n < 2 ^ 31) (s : Int32) (k : Nat) (hs : (s.toBitVec.smod 32).toNat = k) : nI n >>> s = nI (n / 2 ^ k) := by
  apply Int32.toInt_inj.mp
  have h2 : n / 2 ^ k ≤ n := Nat.div_le_self _ _
  rw [pk_shr _ _ k hs, nI_toInt h, nI_toInt (by omega), Int.shiftRight_eq_div_pow]
  rfl
theorem pk_loop {σ : Type} (W : Nat → Nat → σ → Prop) (I : Nat → σ → Prop) (e i0 : Nat) (s : σ) (hi : i0 ≤ e) (h0 : I i0 s) (hx : ∀ n s, I e s → W (n + 1) e s)
    (hs : ∀ n i s, i < e → I i s → (∀ s', I (i + 1) s' → W n (i + 1) s') → W (n + 1) i s) : ∃ n, W n i0 s :=
  ⟨e + 1, loop_i W I e hx hs (e + 1) i0 s hi (by omega) h0⟩
theorem pk_loopD {σ : Type} (W : Nat → Nat → σ → Prop) (I : Nat → σ → Prop) (hx : ∀ n s, I 0 s → W (n + 1) 0 s)
    (hs : ∀ n i s, I (i + 1) s → (∀ s', I i s' → W n i s') → W (n + 1) (i + 1) s) : ∀ (e : Nat) (s : σ), I e s → W (e + 1) e s := by
  intro e
  induction e with
  | zero => exact fun s h => hx 0 s h
  | succ e ih => exact fun s h => hs (e + 1) e s h (fun s' h' => ih s' h')
theorem s_l : ∀ n, n < 32 → ((nI n &&& 31).toBitVec.smod 32).toNat = n := by decide +kernel
end
section
/-! Pure part: least costs by running minima, from the left and from the right. -/
def rl_lm (f : Nat → Nat) : Nat → Nat
  | 0 => 1000000
  | n + 1 => min (rl_lm f n) (f n)
theorem rl_lm_s (f : Nat → Nat) (n : Nat) : rl_lm f (n + 1) = min (rl_lm f n) (f n) := rfl
theorem rl_lm_le (f : Nat → Nat) : ∀ n, rl_lm f n ≤ 1000000 := by
  intro n
  induction n with
  | zero => exact Nat.le_refl _
  | succ n ih => rw [rl_lm_s]; omega
theorem rl_lm_add {f : Nat → Nat} {a k : Nat} (hk : k ≤ 1000000) : ∀ n, (k ≤ rl_lm f n + a ↔ ∀ y, y < n → k ≤ f y + a) := by
  intro n
  induction n with
  | zero =>
    refine ⟨fun _ y hy => absurd hy (Nat.not_lt_zero y), fun _ => ?_⟩
    show k ≤ 1000000 + a
    omega
  | succ n ih =>
    rw [rl_lm_s]
    constructor
    · intro h y hy
      by_cases e : y = n
      · subst e; omega
      · exact ih.mp (by omega) y (by omega)
    · intro h
      have h1 := ih.mpr (fun y hy => h y (by omega))
      have h2 := h n (by omega)
      omega
theorem rl_lm_ge {f : Nat → Nat} {k : Nat} (hk : k ≤ 1000000) (n : Nat) : k ≤ rl_lm f n ↔ ∀ y, y < n → k ≤ f y := by
  have h := rl_lm_add (f := f) (a := 0) hk n
  exact h
theorem rl_lm_at {f : Nat → Nat} {n y : Nat} (h : y < n) : rl_lm f n ≤ f y :=
  (rl_lm_ge (rl_lm_le f n) n).mp (Nat.le_refl _) y h
theorem rl_lm_mono {f : Nat → Nat} {n m : Nat} (h : n ≤ m) : rl_lm f m ≤ rl_lm f n :=
  (rl_lm_ge (rl_lm_le f m) n).mpr (fun _ hy => rl_lm_at (Nat.lt_of_lt_of_le hy h))
theorem rl_lm_cg {f g : Nat → Nat} (n : Nat) (h : ∀ y, y < n → f y = g y) : rl_lm f n = rl_lm g n := by
  induction n with
  | zero => rfl
  | succ n ih => rw [rl_lm_s, rl_lm_s, ih (fun y hy => h y (by omega)), h n (by omega)]
theorem rl_lm_b {f : Nat → Nat} {M : Nat} (h : ∀ y, f y ≤ M ∨ f y = 1000000) : ∀ n, rl_lm f n ≤ M ∨ rl_lm f n = 1000000 := by
  intro n
  induction n with
  | zero => exact Or.inr rfl
  | succ n ih => rw [rl_lm_s]; have := h n; omega
/-- the first place of the least value, by where the running minimum last fell -/
theorem rl_first {f : Nat → Nat} {e r : Nat} (hf : ∀ y, f y ≤ 1000000) (hr : r ≤ e) (h1 : rl_lm f (r + 1) = rl_lm f (e + 1)) (h2 : r = 0 ∨ rl_lm f r ≠ rl_lm f (r + 1)) : f r = rl_lm f (e + 1) ∧ ∀ x, x < r → f x ≠ rl_lm f (e + 1) := by
  have hs := rl_lm_s f r
  rcases h2 with h2 | h2
  · subst h2
    have h0 : rl_lm f 0 = 1000000 := rfl
    have := hf 0
    exact ⟨by omega, fun x hx => absurd hx (Nat.not_lt_zero x)⟩
  · refine ⟨by omega, fun x hx => ?_⟩
    have := rl_lm_at (f := f) hx
    omega
def rl_U (o : Nat → Nat → Nat) (W : Nat → Nat) : Nat → Nat → Nat
  | 0 => fun x => min (o 0 x) 1000000
  | i + 1 => fun x => min (rl_lm (rl_U o W i) (x + 1 - W i) + o (i + 1) x) 1000000
def rl_B (o : Nat → Nat → Nat) (W : Nat → Nat) : Nat → Nat → Nat
  | 0 => fun _ => 0
  | i + 1 => fun x => rl_lm (rl_U o W i) (x + 1 - W i)
theorem rl_B_s (o : Nat → Nat → Nat) (W : Nat → Nat) (i x : Nat) : rl_B o W (i + 1) x = rl_lm (rl_U o W i) (x + 1 - W i) := rfl
theorem rl_U_eq (o : Nat → Nat → Nat) (W : Nat → Nat) (i x : Nat) : rl_U o W i x = min (rl_B o W i x + o i x) 1000000 := by
  cases i with
  | zero =>
    show min (o 0 x) 1000000 = min (0 + o 0 x) 1000000
    rw [Nat.zero_add]
  | succ i => rfl
theorem rl_U_le (o : Nat → Nat → Nat) (W : Nat → Nat) (i x : Nat) : rl_U o W i x ≤ 1000000 := by
  rw [rl_U_eq]; omega
theorem rl_U_cg {o o' : Nat → Nat → Nat} {W : Nat → Nat} : ∀ i, (∀ j, j ≤ i → ∀ x, o j x = o' j x) → ∀ x, rl_U o W i x = rl_U o' W i x := by
  intro i
  induction i with
  | zero =>
    intro h x
    show min (o 0 x) 1000000 = min (o' 0 x) 1000000
    rw [h 0 (Nat.le_refl _) x]
  | succ i ih =>
    intro h x
    have hi := ih (fun j hj => h j (by omega))
    rw [rl_U_eq, rl_U_eq, rl_B_s, rl_B_s, rl_lm_cg _ (fun y _ => hi y), h (i + 1) (Nat.le_refl _) x]
theorem rl_U_b {o : Nat → Nat → Nat} {W : Nat → Nat} (ho : ∀ i x, o i x ≤ 300 ∨ o i x = 1000000) : ∀ i x, rl_U o W i x ≤ 300 * (i + 1) ∨ rl_U o W i x = 1000000 := by
  intro i
  induction i with
  | zero =>
    intro x
    have h := ho 0 x
    have e : rl_U o W 0 x = min (o 0 x) 1000000 := rfl
    omega
  | succ i ih =>
    intro x
    have h := ho (i + 1) x
    have hl := rl_lm_b ih (x + 1 - W i)
    rw [rl_U_eq, rl_B_s]
    omega
def rl_hm (f : Nat → Nat) : Nat → Nat
  | 0 => 1000000
  | d + 1 => min (rl_hm f d) (f (60 - d))
theorem rl_hm_s (f : Nat → Nat) (d : Nat) : rl_hm f (d + 1) = min (rl_hm f d) (f (60 - d)) := rfl
theorem rl_hm_le (f : Nat → Nat) : ∀ n, rl_hm f n ≤ 1000000 := by
  intro n
  induction n with
  | zero => exact Nat.le_refl _
  | succ n ih => rw [rl_hm_s]; omega
theorem rl_hm_b {f : Nat → Nat} {M : Nat} (h : ∀ y, f y ≤ M ∨ f y = 1000000) : ∀ n, rl_hm f n ≤ M ∨ rl_hm f n = 1000000 := by
  intro n
  induction n with
  | zero => exact Or.inr rfl
  | succ n ih => rw [rl_hm_s]; have := h (60 - n); omega
theorem rl_hm_add {f : Nat → Nat} {a k : Nat} (hk : k ≤ 1000000) : ∀ d, d ≤ 61 → (k ≤ rl_hm f d + a ↔ ∀ z, z < 61 → 61 - d ≤ z → k ≤ f z + a) := by
  intro d
  induction d with
  | zero =>
    intro _
    refine ⟨fun _ z hz hz' => absurd hz (by omega), fun _ => ?_⟩
    show k ≤ 1000000 + a
    omega
  | succ d ih =>
    intro hd
    have ih := ih (by omega)
    rw [rl_hm_s]
    constructor
    · intro h z hz hz'
      by_cases e : z = 60 - d
      · subst e; omega
      · exact ih.mp (by omega) z hz (by omega)
    · intro h
      have h1 := ih.mpr (fun z hz hz' => h z hz (by omega))
      have h2 := h (60 - d) (by omega) (by omega)
      omega
def rl_D (o : Nat → Nat → Nat) (W : Nat → Nat) (c : Nat) : Nat → Nat → Nat
  | 0 => fun x => min (o (c - 1) x) 1000000
  | j + 1 => fun x => min (rl_hm (rl_D o W c j) (61 - (x + W (c - 1 - (j + 1)))) + o (c - 1 - (j + 1)) x) 1000000
def rl_R (o : Nat → Nat → Nat) (W : Nat → Nat) (c : Nat) : Nat → Nat → Nat
  | 0 => fun _ => 0
  | j + 1 => fun x => rl_hm (rl_D o W c j) (61 - (x + W (c - 1 - (j + 1))))
theorem rl_R_s (o : Nat → Nat → Nat) (W : Nat → Nat) (c j x : Nat) : rl_R o W c (j + 1) x = rl_hm (rl_D o W c j) (61 - (x + W (c - 1 - (j + 1)))) := rfl
theorem rl_D_eq (o : Nat → Nat → Nat) (W : Nat → Nat) (c j x : Nat) : rl_D o W c j x = min (rl_R o W c j x + o (c - 1 - j) x) 1000000 := by
  cases j with
  | zero =>
    show min (o (c - 1) x) 1000000 = min (0 + o (c - 1) x) 1000000
    rw [Nat.zero_add]
  | succ j => rfl
theorem rl_D_b {o : Nat → Nat → Nat} {W : Nat → Nat} {c : Nat} (ho : ∀ i x, o i x ≤ 300 ∨ o i x = 1000000) : ∀ j x, rl_D o W c j x ≤ 300 * (j + 1) ∨ rl_D o W c j x = 1000000 := by
  intro j
  induction j with
  | zero =>
    intro x
    have h := ho (c - 1) x
    have e : rl_D o W c 0 x = min (o (c - 1) x) 1000000 := rfl
    omega
  | succ j ih =>
    intro x
    have h := ho (c - 1 - (j + 1)) x
    have hl := rl_hm_b ih (61 - (x + W (c - 1 - (j + 1))))
    rw [rl_D_eq, rl_R_s]
    omega
theorem rl_R_b {o : Nat → Nat → Nat} {W : Nat → Nat} {c : Nat} (ho : ∀ i x, o i x ≤ 300 ∨ o i x = 1000000) : ∀ j x, rl_R o W c j x ≤ 300 * j ∨ rl_R o W c j x = 1000000 := by
  intro j x
  cases j with
  | zero => exact Or.inl (Nat.zero_le _)
  | succ j => rw [rl_R_s]; exact rl_hm_b (rl_D_b ho j) _
/-- what the whole row costs, seen from the cell that is j from the end -/
def rl_F (o o' : Nat → Nat → Nat) (W : Nat → Nat) (c j : Nat) : Nat := rl_lm (fun y => rl_U o' W (c - 1 - j) y + rl_R o W c j y) 61
theorem rl_F_ge (o o' : Nat → Nat → Nat) (W : Nat → Nat) (c j : Nat) {k : Nat} (hk : k ≤ 1000000) : k ≤ rl_F o o' W c j ↔ ∀ y, y < 61 → k ≤ rl_U o' W (c - 1 - j) y + rl_R o W c j y := rl_lm_ge hk 61
theorem rl_F_l {o o' : Nat → Nat → Nat} {W : Nat → Nat} {c j : Nat} {k : Nat} (hk : k ≤ 1000000) : k ≤ rl_F o o' W c (j + 1) ↔ ∀ y z, y < 61 → z < 61 → y + W (c - 1 - (j + 1)) ≤ z → k ≤ rl_U o' W (c - 1 - (j + 1)) y + (o (c - 1 - j) z + rl_R o W c j z) := by
  rw [rl_F_ge _ _ _ _ _ hk]
  constructor
  · intro h y z hy hz hyz
    have h1 := h y hy
    rw [rl_R_s, Nat.add_comm, rl_hm_add hk (61 - (y + W (c - 1 - (j + 1)))) (by omega)] at h1
    have h2 := h1 z hz (by omega)
    rw [rl_D_eq] at h2
    omega
  · intro h y hy
    rw [rl_R_s, Nat.add_comm, rl_hm_add hk (61 - (y + W (c - 1 - (j + 1)))) (by omega)]
    intro z hz hz'
    have h2 := h y z hy hz (by omega)
    rw [rl_D_eq]
    omega
theorem rl_F_r {o o' : Nat → Nat → Nat} {W : Nat → Nat} {c j i : Nat} (hi : c - 1 - j = i + 1) (ho : ∀ x, o' (i + 1) x = o (i + 1) x) {k : Nat} (hk : k ≤ 1000000) : k ≤ rl_F o o' W c j ↔ ∀ y z, y < 61 → z < 61 → y + W i ≤ z → k ≤ rl_U o' W i y + (o (i + 1) z + rl_R o W c j z) := by
  rw [rl_F_ge _ _ _ _ _ hk, hi]
  constructor
  · intro h y z hy hz hyz
    have h1 := h z hz
    rw [rl_U_eq, rl_B_s, ho] at h1
    have h2 : k ≤ rl_lm (rl_U o' W i) (z + 1 - W i) + (o (i + 1) z + rl_R o W c j z) := by omega
    exact (rl_lm_add hk _).mp h2 y (by omega)
  · intro h z hz
    rw [rl_U_eq, rl_B_s, ho]
    have h2 : k ≤ rl_lm (rl_U o' W i) (z + 1 - W i) + (o (i + 1) z + rl_R o W c j z) := (rl_lm_add hk _).mpr (fun y hy => h y z (by omega) hz (by omega))
    omega
theorem rl_F_step {o o' : Nat → Nat → Nat} {W : Nat → Nat} {c j : Nat} (hj : j + 1 < c) (ho : ∀ x, o' (c - 1 - j) x = o (c - 1 - j) x) : rl_F o o' W c (j + 1) = rl_F o o' W c j := by
  have hi : c - 1 - j = (c - 1 - (j + 1)) + 1 := by omega
  have ho' : ∀ x, o' ((c - 1 - (j + 1)) + 1) x = o ((c - 1 - (j + 1)) + 1) x := by rw [← hi]; exact ho
  have key : ∀ k, k ≤ 1000000 → (k ≤ rl_F o o' W c (j + 1) ↔ k ≤ rl_F o o' W c j) := by
    intro k hk
    rw [rl_F_l hk, rl_F_r hi ho' hk, hi]
  exact Nat.le_antisymm ((key _ (rl_lm_le _ _)).mp (Nat.le_refl _)) ((key _ (rl_lm_le _ _)).mpr (Nat.le_refl _))
theorem rl_F_all {o o' : Nat → Nat → Nat} {W : Nat → Nat} {c p : Nat} (ho : ∀ i, p < i → ∀ x, o' i x = o i x) : ∀ j, j + p < c → rl_F o o' W c j = rl_lm (rl_U o' W (c - 1)) 61 := by
  intro j
  induction j with
  | zero =>
    intro _
    exact rl_lm_cg _ (fun y _ => rfl)
  | succ j ih =>
    intro hj
    rw [rl_F_step (W := W) (c := c) (j := j) (by omega) (ho (c - 1 - j) (by omega)), ih (by omega)]
theorem rl_pin_ar {U R m : Nat} (hU : U ≤ 3000 ∨ U = 1000000) (hR : R ≤ 3000 ∨ R = 1000000) (hm : m ≤ 300) : (min (U + R) 1000000 = 1000000 ↔ min (U + min (R + m) 1000000) 1000000 = 1000000) ∧ (min (U + min (R + m) 1000000) 1000000 ≠ 1000000 → min (U + min (R + m) 1000000) 1000000 = min (U + R) 1000000 + m) := by omega
/-- one cell pinned: from the left with the pin = from both sides without it -/
theorem rl_pin {o o' : Nat → Nat → Nat} {W : Nat → Nat} {c p e : Nat} (hb : ∀ i x, o i x ≤ 300 ∨ o i x = 1000000) (hp : p < c) (hc : c ≤ 10) (he : e < 61) (hm : o p e ≤ 300) (ho : ∀ i, i ≠ p → ∀ x, o' i x = o i x) (hpe : o' p e = o p e) (hpn : ∀ x, x ≠ e → o' p x = 1000000) :
    (rl_lm (rl_U o' W (c - 1)) 61 = 1000000 ↔ min (rl_U o W p e + rl_D o W c (c - 1 - p) e) 1000000 = 1000000) ∧ (min (rl_U o W p e + rl_D o W c (c - 1 - p) e) 1000000 ≠ 1000000 → min (rl_U o W p e + rl_D o W c (c - 1 - p) e) 1000000 = rl_lm (rl_U o' W (c - 1)) 61 + o p e) := by
  have hF := rl_F_all (W := W) (c := c) (p := p) (o := o) (o' := o') (fun i hi => ho i (by omega)) (c - 1 - p) (by omega)
  have hcp : c - 1 - (c - 1 - p) = p := by omega
  have hB : ∀ x, rl_B o' W p x = rl_B o W p x := by
    intro x
    cases p with
    | zero => rfl
    | succ q => 
      rw [rl_B_s, rl_B_s]
      exact rl_lm_cg _ (fun y _ => rl_U_cg q (fun j hj x => ho j (by omega) x) y)
  have hUe : rl_U o' W p e = rl_U o W p e := by rw [rl_U_eq, rl_U_eq, hB, hpe]
  have hUn : ∀ x, x ≠ e → rl_U o' W p x = 1000000 := by
    intro x hx
    rw [rl_U_eq, hpn x hx]; exact Nat.min_eq_right (Nat.le_add_left _ _)
  have hV : rl_F o o' W c (c - 1 - p) = min (rl_U o W p e + rl_R o W c (c - 1 - p) e) 1000000 := by
    apply Nat.le_antisymm
    · have h1 : rl_F o o' W c (c - 1 - p) ≤ rl_U o' W (c - 1 - (c - 1 - p)) e + rl_R o W c (c - 1 - p) e := rl_lm_at (f := fun y => rl_U o' W (c - 1 - (c - 1 - p)) y + rl_R o W c (c - 1 - p) y) he
      have h2 : rl_F o o' W c (c - 1 - p) ≤ 1000000 := rl_lm_le _ _
      rw [hcp, hUe] at h1
      omega
    · rw [rl_F_ge o o' W c (c - 1 - p) (k := min (rl_U o W p e + rl_R o W c (c - 1 - p) e) 1000000) (Nat.min_le_right _ _), hcp]
      intro y hy
      by_cases ey : y = e
      · rw [ey, hUe]; omega
      · rw [hUn y ey]; omega
  rw [← hF, hV, rl_D_eq, hcp]
  have hRb := rl_R_b (W := W) (c := c) hb (c - 1 - p) e
  have hUb := rl_U_b (W := W) hb p e
  exact rl_pin_ar (by omega) (by omega) hm
/-! the first place of the least value, as a scan from the right finds it -/
def rl_fi (f : Nat → Nat) : Nat → Nat
  | 0 => 0
  | e + 1 => if rl_lm f (e + 1) = rl_lm f (e + 2) then rl_fi f e else e + 1
theorem rl_fi_s (f : Nat → Nat) (e : Nat) : rl_fi f (e + 1) = if rl_lm f (e + 1) = rl_lm f (e + 2) then rl_fi f e else e + 1 := rfl
theorem rl_fi_sp (f : Nat → Nat) : ∀ e, rl_fi f e ≤ e ∧ rl_lm f (rl_fi f e + 1) = rl_lm f (e + 1) ∧ (rl_fi f e = 0 ∨ rl_lm f (rl_fi f e) ≠ rl_lm f (rl_fi f e + 1)) := by
  intro e
  induction e with
  | zero => exact ⟨Nat.le_refl _, rfl, Or.inl rfl⟩
  | succ e ih =>
    rw [rl_fi_s]
    by_cases h : rl_lm f (e + 1) = rl_lm f (e + 2)
    · rw [if_pos h]
      exact ⟨by omega, ih.2.1.trans h, ih.2.2⟩
    · rw [if_neg h]
      exact ⟨Nat.le_refl _, rfl, Or.inr h⟩
/-- the latest place that is left for the cell that is d from the end -/
def rl_la (o : Nat → Nat → Nat) (W : Nat → Nat) (c : Nat) : Nat → Nat
  | 0 => 60
  | d + 1 => rl_fi (rl_U o W (c - 1 - d)) (rl_la o W c d) - W (c - 1 - (d + 1))
/-- where it stands -/
def rl_ed (o : Nat → Nat → Nat) (W : Nat → Nat) (c d : Nat) : Nat := rl_fi (rl_U o W (c - 1 - d)) (rl_la o W c d)
/-- what it and those on its left cost -/
def rl_du (o : Nat → Nat → Nat) (W : Nat → Nat) (c d : Nat) : Nat := rl_lm (rl_U o W (c - 1 - d)) (rl_la o W c d + 1)
theorem rl_la_s (o : Nat → Nat → Nat) (W : Nat → Nat) (c d : Nat) : rl_la o W c (d + 1) = rl_ed o W c d - W (c - 1 - (d + 1)) := rfl
theorem rl_ed_ok (o : Nat → Nat → Nat) (W : Nat → Nat) (c d : Nat) : rl_ed o W c d ≤ rl_la o W c d ∧ rl_U o W (c - 1 - d) (rl_ed o W c d) = rl_du o W c d ∧ ∀ x, x < rl_ed o W c d → rl_U o W (c - 1 - d) x ≠ rl_du o W c d := by
  obtain ⟨h1, h2, h3⟩ := rl_fi_sp (rl_U o W (c - 1 - d)) (rl_la o W c d)
  exact ⟨h1, rl_first (fun y => rl_U_le o W _ y) h1 h2 h3⟩
theorem rl_du_s {o : Nat → Nat → Nat} {W : Nat → Nat} {c d : Nat} (hd : d + 1 < c) (h : rl_du o W c d < 1000000) : W (c - 1 - (d + 1)) ≤ rl_ed o W c d ∧ rl_du o W c (d + 1) + o (c - 1 - d) (rl_ed o W c d) = rl_du o W c d := by
  obtain ⟨_, h2, _⟩ := rl_ed_ok o W c d
  have hi : c - 1 - d = (c - 1 - (d + 1)) + 1 := by omega
  have hB : rl_B o W (c - 1 - d) (rl_ed o W c d) = rl_lm (rl_U o W (c - 1 - (d + 1))) (rl_ed o W c d + 1 - W (c - 1 - (d + 1))) := by
    generalize rl_ed o W c d = z
    rw [hi]
    exact rl_B_s o W _ z
  rw [rl_U_eq, hB] at h2
  by_cases hw : W (c - 1 - (d + 1)) ≤ rl_ed o W c d
  · refine ⟨hw, ?_⟩
    have e : rl_la o W c (d + 1) + 1 = rl_ed o W c d + 1 - W (c - 1 - (d + 1)) := by rw [rl_la_s]; omega
    have e2 : rl_du o W c (d + 1) = rl_lm (rl_U o W (c - 1 - (d + 1))) (rl_ed o W c d + 1 - W (c - 1 - (d + 1))) := by rw [← e]; rfl
    rw [e2]
    omega
  · have e : rl_ed o W c d + 1 - W (c - 1 - (d + 1)) = 0 := by omega
    have e0 : rl_lm (rl_U o W (c - 1 - (d + 1))) 0 = 1000000 := rfl
    rw [e, e0] at h2
    omega
theorem rl_path {o : Nat → Nat → Nat} {W : Nat → Nat} {c : Nat} (h0 : rl_lm (rl_U o W (c - 1)) 61 < 1000000) : ∀ d, d < c → rl_la o W c d ≤ 60 ∧ rl_du o W c d < 1000000 := by
  intro d
  induction d with
  | zero => intro _; exact ⟨Nat.le_refl _, h0⟩
  | succ d ih =>
    intro hd
    obtain ⟨h1, h2⟩ := ih (by omega)
    obtain ⟨h3, h4⟩ := rl_du_s hd h2
    obtain ⟨h5, _, _⟩ := rl_ed_ok o W c d
    exact ⟨by rw [rl_la_s]; omega, by omega⟩
/-- the best of the cells on the left before place x is looked at -/
def rl_b (o : Nat → Nat → Nat) (W : Nat → Nat) : Nat → Nat → Nat
  | 0 => fun _ => 0
  | i + 1 => fun x => rl_lm (rl_U o W i) (x - W i)
theorem rl_b_s (o : Nat → Nat → Nat) (W : Nat → Nat) (i x : Nat) : rl_b o W (i + 1) x = rl_lm (rl_U o W i) (x - W i) := rfl
theorem rl_B_b (o : Nat → Nat → Nat) (W : Nat → Nat) (i x : Nat) : rl_B o W i x = rl_b o W i (x + 1) := by
  cases i with
  | zero => rfl
  | succ i => rfl
theorem rl_b_le (o : Nat → Nat → Nat) (W : Nat → Nat) (i x : Nat) : rl_b o W i x ≤ 1000000 := by
  cases i with
  | zero => exact Nat.zero_le _
  | succ i => exact rl_lm_le _ _
theorem rl_B_le (o : Nat → Nat → Nat) (W : Nat → Nat) (i x : Nat) : rl_B o W i x ≤ 1000000 := by rw [rl_B_b]; exact rl_b_le o W i _
theorem rl_R_le (o : Nat → Nat → Nat) (W : Nat → Nat) (c j x : Nat) : rl_R o W c j x ≤ 1000000 := by
  cases j with
  | zero => exact Nat.zero_le _
  | succ j => exact rl_hm_le _ _
theorem rl_D_le (o : Nat → Nat → Nat) (W : Nat → Nat) (c j x : Nat) : rl_D o W c j x ≤ 1000000 := by rw [rl_D_eq]; omega
theorem rl_b_y {o : Nat → Nat → Nat} {W : Nat → Nat} {i x : Nat} (h : W i ≤ x) : rl_b o W (i + 1) (x + 1) = min (rl_b o W (i + 1) x) (rl_U o W i (x - W i)) := by
  rw [rl_b_s, rl_b_s, show x + 1 - W i = x - W i + 1 by omega, rl_lm_s]
theorem rl_b_n {o : Nat → Nat → Nat} {W : Nat → Nat} {i x : Nat} (h : x < W i) : rl_b o W (i + 1) (x + 1) = rl_b o W (i + 1) x := by
  rw [rl_b_s, rl_b_s, show x + 1 - W i = 0 by omega, show x - W i = 0 by omega]
theorem rl_R_y {o : Nat → Nat → Nat} {W : Nat → Nat} {c j x : Nat} (h : x + W (c - 1 - (j + 1)) < 61) : rl_R o W c (j + 1) x = min (rl_R o W c (j + 1) (x + 1)) (rl_D o W c j (x + W (c - 1 - (j + 1)))) := by
  rw [rl_R_s, rl_R_s]
  generalize W (c - 1 - (j + 1)) = w at h ⊢
  rw [show 61 - (x + w) = (61 - (x + 1 + w)) + 1 by omega, rl_hm_s, show 60 - (61 - (x + 1 + w)) = x + w by omega]
theorem rl_R_n {o : Nat → Nat → Nat} {W : Nat → Nat} {c j x : Nat} (h : 61 ≤ x + W (c - 1 - (j + 1))) : rl_R o W c (j + 1) x = rl_R o W c (j + 1) (x + 1) := by
  rw [rl_R_s, rl_R_s]
  generalize W (c - 1 - (j + 1)) = w at h ⊢
  rw [show 61 - (x + w) = 0 by omega, show 61 - (x + 1 + w) = 0 by omega]
theorem rl_R_61 {o : Nat → Nat → Nat} {W : Nat → Nat} {c j : Nat} : rl_R o W c (j + 1) 61 = 1000000 := by
  rw [rl_R_s, show 61 - (61 + W (c - 1 - (j + 1))) = 0 by omega]
  rfl
end
section
/-! Pure part: contented cells, chains against subsets. -/
/-- a chain of n cells, each at its wish, that ends with cell j -/
def rl_ck (S W : Nat → Nat) (L : Nat) : Nat → Nat → Prop
  | 0 => fun _ => False
  | n + 1 => fun j => S j + W j ≤ L ∧ (n = 0 ∨ ∃ i, i < j ∧ S i + W i ≤ S j ∧ rl_ck S W L n i)
theorem rl_ck_0 {S W : Nat → Nat} {L j : Nat} : ¬ rl_ck S W L 0 j := fun h => h
theorem rl_ck_s {S W : Nat → Nat} {L n j : Nat} : rl_ck S W L (n + 1) j ↔ S j + W j ≤ L ∧ (n = 0 ∨ ∃ i, i < j ∧ S i + W i ≤ S j ∧ rl_ck S W L n i) := Iff.rfl
/-- q is the length of the longest chain that ends with cell j -/
def rl_Q (S W : Nat → Nat) (L j q : Nat) : Prop := (q = 0 ∨ rl_ck S W L q j) ∧ ∀ n, rl_ck S W L n j → n ≤ q
/-- the longest among the first i that may stand ahead of cell j -/
def rl_P (S W : Nat → Nat) (L j i q : Nat) : Prop := (q = 0 ∨ ∃ a, a < i ∧ S a + W a ≤ S j ∧ rl_ck S W L q a) ∧ ∀ a, a < i → S a + W a ≤ S j → ∀ n, rl_ck S W L n a → n ≤ q
/-- the longest of all chains among the first c -/
def rl_M (S W : Nat → Nat) (L c q : Nat) : Prop := (q = 0 ∨ ∃ a, a < c ∧ rl_ck S W L q a) ∧ ∀ a, a < c → ∀ n, rl_ck S W L n a → n ≤ q
theorem rl_Q_bad {S W : Nat → Nat} {L j : Nat} (h : L < S j + W j) : rl_Q S W L j 0 := by
  refine ⟨Or.inl rfl, fun n hn => ?_⟩
  cases n with
  | zero => exact Nat.le_refl _
  | succ n => have := (rl_ck_s.mp hn).1; omega
theorem rl_P_0 {S W : Nat → Nat} {L j : Nat} : rl_P S W L j 0 0 := ⟨Or.inl rfl, fun a ha => absurd ha (Nat.not_lt_zero a)⟩
theorem rl_P_no {S W : Nat → Nat} {L j i q : Nat} (h : rl_P S W L j i q) (hn : ¬ S i + W i ≤ S j) : rl_P S W L j (i + 1) q := by
  refine ⟨?_, fun a ha h1 n hn' => ?_⟩
  · rcases h.1 with h0 | ⟨a, ha, h1, h2⟩
    · exact Or.inl h0
    · exact Or.inr ⟨a, by omega, h1, h2⟩
  · by_cases e : a = i
    · subst e; exact absurd h1 hn
    · exact h.2 a (by omega) h1 n hn'
theorem rl_P_le {S W : Nat → Nat} {L j i q r : Nat} (h : rl_P S W L j i q) (hQ : rl_Q S W L i r) (hr : r ≤ q) : rl_P S W L j (i + 1) q := by
  refine ⟨?_, fun a ha h1 n hn' => ?_⟩
  · rcases h.1 with h0 | ⟨a, ha, h1, h2⟩
    · exact Or.inl h0
    · exact Or.inr ⟨a, by omega, h1, h2⟩
  · by_cases e : a = i
    · subst e; exact Nat.le_trans (hQ.2 n hn') hr
    · exact h.2 a (by omega) h1 n hn'
theorem rl_P_gt {S W : Nat → Nat} {L j i q r : Nat} (h : rl_P S W L j i q) (hc : S i + W i ≤ S j) (hQ : rl_Q S W L i r) (hr : q < r) : rl_P S W L j (i + 1) r := by
  refine ⟨?_, fun a ha h1 n hn' => ?_⟩
  · rcases hQ.1 with h0 | h0
    · omega
    · exact Or.inr ⟨i, by omega, hc, h0⟩
  · by_cases e : a = i
    · subst e; exact hQ.2 n hn'
    · exact Nat.le_of_lt (Nat.lt_of_le_of_lt (h.2 a (by omega) h1 n hn') hr)
theorem rl_P_end {S W : Nat → Nat} {L j q : Nat} (hj : S j + W j ≤ L) (h : rl_P S W L j j q) : rl_Q S W L j (q + 1) := by
  refine ⟨Or.inr (rl_ck_s.mpr ⟨hj, ?_⟩), fun n hn => ?_⟩
  · rcases h.1 with h0 | ⟨a, ha, h1, h2⟩
    · exact Or.inl h0
    · exact Or.inr ⟨a, ha, h1, h2⟩
  · cases n with
    | zero => exact Nat.zero_le _
    | succ n =>
      rcases (rl_ck_s.mp hn).2 with h0 | ⟨a, ha, h1, h2⟩
      · omega
      · have := h.2 a ha h1 n h2; omega
theorem rl_M_0 {S W : Nat → Nat} {L : Nat} : rl_M S W L 0 0 := ⟨Or.inl rfl, fun a ha => absurd ha (Nat.not_lt_zero a)⟩
theorem rl_M_le {S W : Nat → Nat} {L i q r : Nat} (h : rl_M S W L i q) (hQ : rl_Q S W L i r) (hr : r ≤ q) : rl_M S W L (i + 1) q := by
  refine ⟨?_, fun a ha n hn' => ?_⟩
  · rcases h.1 with h0 | ⟨a, ha, h2⟩
    · exact Or.inl h0
    · exact Or.inr ⟨a, by omega, h2⟩
  · by_cases e : a = i
    · subst e; exact Nat.le_trans (hQ.2 n hn') hr
    · exact h.2 a (by omega) n hn'
theorem rl_M_gt {S W : Nat → Nat} {L i q r : Nat} (h : rl_M S W L i q) (hQ : rl_Q S W L i r) (hr : q < r) : rl_M S W L (i + 1) r := by
  refine ⟨?_, fun a ha n hn' => ?_⟩
  · rcases hQ.1 with h0 | h0
    · omega
    · exact Or.inr ⟨i, by omega, h0⟩
  · by_cases e : a = i
    · subst e; exact hQ.2 n hn'
    · exact Nat.le_of_lt (Nat.lt_of_le_of_lt (h.2 a (by omega) n hn') hr)
theorem rl_M_u {S W : Nat → Nat} {L c q r : Nat} (h : rl_M S W L c q) (h' : rl_M S W L c r) : q = r := by
  apply Nat.le_antisymm
  · rcases h.1 with h0 | ⟨a, ha, h2⟩
    · omega
    · exact h'.2 a ha q h2
  · rcases h'.1 with h0 | ⟨a, ha, h2⟩
    · omega
    · exact h.2 a ha r h2
/-- a chain has no more cells than stand up to its last -/
theorem rl_ck_le {S W : Nat → Nat} {L : Nat} : ∀ n j, rl_ck S W L n j → n ≤ j + 1 := by
  intro n
  induction n with
  | zero => intro j _; exact Nat.zero_le _
  | succ n ih =>
    intro j h
    rcases (rl_ck_s.mp h).2 with h0 | ⟨a, ha, _, h2⟩
    · omega
    · have := ih a h2; omega
theorem rl_Q_le {S W : Nat → Nat} {L j q : Nat} (h : rl_Q S W L j q) : q ≤ j + 1 := by
  rcases h.1 with h0 | h0
  · omega
  · exact rl_ck_le q j h0
/-! subsets as numbers -/
def rl_cn (s : Nat) : Nat → Nat
  | 0 => 0
  | i + 1 => rl_cn s i + s / 2 ^ i % 2
theorem rl_cn_s (s i : Nat) : rl_cn s (i + 1) = rl_cn s i + s / 2 ^ i % 2 := rfl
theorem rl_cn_le (s : Nat) : ∀ i, rl_cn s i ≤ i := by
  intro i
  induction i with
  | zero => exact Nat.le_refl _
  | succ i ih => rw [rl_cn_s]; have := Nat.mod_lt (s / 2 ^ i) (show 0 < 2 by decide); omega
def rl_es (S W : Nat → Nat) (L s i : Nat) : Option Nat → Option Nat
  | none => none
  | some e => if s / 2 ^ i % 2 = 1 then (if S i < e ∨ L < S i + W i then none else some (S i + W i)) else some e
def rl_en (S W : Nat → Nat) (L s : Nat) : Nat → Option Nat
  | 0 => some 0
  | i + 1 => rl_es S W L s i (rl_en S W L s i)
theorem rl_en_s (S W : Nat → Nat) (L s i : Nat) : rl_en S W L s (i + 1) = rl_es S W L s i (rl_en S W L s i) := rfl
theorem rl_en_n {S W : Nat → Nat} {L s i : Nat} (h : rl_en S W L s i = none) : ∀ d, rl_en S W L s (i + d) = none := by
  intro d
  induction d with
  | zero => exact h
  | succ d ih => rw [← Nat.add_assoc, rl_en_s, ih]; rfl
theorem rl_es_0 {S W : Nat → Nat} {L s i e : Nat} (hb : ¬ s / 2 ^ i % 2 = 1) : rl_es S W L s i (some e) = some e := if_neg hb
theorem rl_es_1 {S W : Nat → Nat} {L s i e : Nat} (hb : s / 2 ^ i % 2 = 1) (h : ¬ (S i < e ∨ L < S i + W i)) : rl_es S W L s i (some e) = some (S i + W i) := by
  show (if s / 2 ^ i % 2 = 1 then (if S i < e ∨ L < S i + W i then none else some (S i + W i)) else some e) = _
  rw [if_pos hb, if_neg h]
theorem rl_es_b {S W : Nat → Nat} {L s i e : Nat} (hb : s / 2 ^ i % 2 = 1) (h : S i < e ∨ L < S i + W i) : rl_es S W L s i (some e) = none := by
  show (if s / 2 ^ i % 2 = 1 then (if S i < e ∨ L < S i + W i then none else some (S i + W i)) else some e) = _
  rw [if_pos hb, if_pos h]
theorem rl_en_ck {S W : Nat → Nat} {L s : Nat} : ∀ i e, rl_en S W L s i = some e → (rl_cn s i = 0 ∧ e = 0) ∨ ∃ j, j < i ∧ rl_ck S W L (rl_cn s i) j ∧ e = S j + W j := by
  intro i
  induction i with
  | zero =>
    intro e h
    have h' : some 0 = some e := h
    exact Or.inl ⟨rfl, (Option.some.inj h').symm⟩
  | succ i ih =>
    intro e h
    rw [rl_en_s] at h
    rw [rl_cn_s]
    cases h0 : rl_en S W L s i with
    | none => rw [h0] at h; exact absurd h (by intro z; cases z)
    | some e0 =>
      rw [h0] at h
      by_cases hb : s / 2 ^ i % 2 = 1
      · by_cases hq : S i < e0 ∨ L < S i + W i
        · rw [rl_es_b hb hq] at h; exact absurd h (by intro z; cases z)
        · rw [rl_es_1 hb hq] at h
          have he := Option.some.inj h
          refine Or.inr ⟨i, by omega, ?_, he.symm⟩
          rw [hb]
          refine rl_ck_s.mpr ⟨by omega, ?_⟩
          rcases ih e0 h0 with ⟨h1, _⟩ | ⟨j, hj, h1, h2⟩
          · exact Or.inl h1
          · exact Or.inr ⟨j, hj, by omega, h1⟩
      · rw [rl_es_0 hb] at h
        have he := Option.some.inj h
        subst he
        have hz : s / 2 ^ i % 2 = 0 := by have := Nat.mod_lt (s / 2 ^ i) (show 0 < 2 by decide); omega
        rw [hz, Nat.add_zero]
        rcases ih e0 h0 with h1 | ⟨j, hj, h1, h2⟩
        · exact Or.inl h1
        · exact Or.inr ⟨j, by omega, h1, h2⟩
theorem rl_bit_lo {t j i : Nat} (h : i < j) : (t + 2 ^ j) / 2 ^ i % 2 = t / 2 ^ i % 2 := by
  obtain ⟨d, rfl⟩ : ∃ d, j = i + (d + 1) := ⟨j - i - 1, by omega⟩
  have e : 2 ^ (i + (d + 1)) = 2 ^ i * (2 * 2 ^ d) := by rw [Nat.pow_add, Nat.pow_succ, Nat.mul_comm (2 ^ d)]
  rw [e, Nat.add_mul_div_left _ _ (Nat.two_pow_pos i), Nat.add_mul_mod_self_left]
theorem rl_bit_at {t j : Nat} (h : t < 2 ^ j) : (t + 2 ^ j) / 2 ^ j % 2 = 1 := by
  have h1 : (t + 2 ^ j) / 2 ^ j = t / 2 ^ j + 1 := Nat.add_div_right t (Nat.two_pow_pos j)
  exact congrArg (fun x => x % 2) (h1.trans (congrArg (fun x => x + 1) (Nat.div_eq_of_lt h)))
theorem rl_bit_hi {s m i : Nat} (h : s < 2 ^ m) (hi : m ≤ i) : ¬ s / 2 ^ i % 2 = 1 := by
  rw [Nat.div_eq_of_lt (Nat.lt_of_lt_of_le h (Nat.pow_le_pow_right (by decide) hi))]
  decide
theorem rl_low {S W : Nat → Nat} {L s t : Nat} : ∀ i, (∀ k, k < i → s / 2 ^ k % 2 = t / 2 ^ k % 2) → rl_cn s i = rl_cn t i ∧ rl_en S W L s i = rl_en S W L t i := by
  intro i
  induction i with
  | zero => intro _; exact ⟨rfl, rfl⟩
  | succ i ih =>
    intro h
    obtain ⟨h1, h2⟩ := ih (fun k hk => h k (by omega))
    have h3 := h i (by omega)
    refine ⟨by rw [rl_cn_s, rl_cn_s, h1, h3], ?_⟩
    rw [rl_en_s, rl_en_s, h2]
    cases rl_en S W L t i with
    | none => rfl
    | some e => unfold rl_es; rw [h3]
theorem rl_high {S W : Nat → Nat} {L s m : Nat} (h : s < 2 ^ m) : ∀ d, rl_cn s (m + d) = rl_cn s m ∧ rl_en S W L s (m + d) = rl_en S W L s m := by
  intro d
  induction d with
  | zero => exact ⟨rfl, rfl⟩
  | succ d ih =>
    obtain ⟨h1, h2⟩ := ih
    have hb := rl_bit_hi h (Nat.le_add_right m d)
    have hz : s / 2 ^ (m + d) % 2 = 0 := by have := Nat.mod_lt (s / 2 ^ (m + d)) (show 0 < 2 by decide); omega
    refine ⟨by rw [← Nat.add_assoc, rl_cn_s, h1, hz, Nat.add_zero], ?_⟩
    rw [← Nat.add_assoc, rl_en_s, h2]
    cases rl_en S W L s m with
    | none => rfl
    | some e => exact rl_es_0 hb
theorem rl_zero {S W : Nat → Nat} {L : Nat} (i : Nat) : rl_cn 0 i = 0 ∧ rl_en S W L 0 i = some 0 := by
  have h := rl_high (S := S) (W := W) (L := L) (s := 0) (m := 0) (by decide) i
  rw [Nat.zero_add] at h
  exact h
theorem rl_put {S W : Nat → Nat} {L t j n e : Nat} (ht : t < 2 ^ j) (hn : rl_cn t j = n) (he : rl_en S W L t j = some e) (h1 : e ≤ S j) (h2 : S j + W j ≤ L) : t + 2 ^ j < 2 ^ (j + 1) ∧ rl_cn (t + 2 ^ j) (j + 1) = n + 1 ∧ rl_en S W L (t + 2 ^ j) (j + 1) = some (S j + W j) := by
  obtain ⟨l1, l2⟩ := rl_low (S := S) (W := W) (L := L) (s := t + 2 ^ j) (t := t) j (fun k hk => rl_bit_lo hk)
  refine ⟨by rw [Nat.pow_succ]; omega, by rw [rl_cn_s, l1, hn, rl_bit_at ht], ?_⟩
  rw [rl_en_s, l2, he]
  exact rl_es_1 (rl_bit_at ht) (by omega)
theorem rl_ck_set {S W : Nat → Nat} {L : Nat} : ∀ n j, rl_ck S W L n j → ∃ s, s < 2 ^ (j + 1) ∧ rl_cn s (j + 1) = n ∧ rl_en S W L s (j + 1) = some (S j + W j) := by
  intro n
  induction n with
  | zero => intro j h; exact absurd h rl_ck_0
  | succ n ih =>
    intro j h
    obtain ⟨h2, h3⟩ := rl_ck_s.mp h
    rcases h3 with h0 | ⟨i, hi, h4, h5⟩
    · subst h0
      obtain ⟨z1, z2⟩ := rl_zero (S := S) (W := W) (L := L) j
      exact ⟨_, rl_put (Nat.two_pow_pos j) z1 z2 (Nat.zero_le _) h2⟩
    · obtain ⟨t, t1, t2, t3⟩ := ih i h5
      obtain ⟨d, hd⟩ : ∃ d, j = (i + 1) + d := ⟨j - (i + 1), by omega⟩
      obtain ⟨g1, g2⟩ := rl_high (S := S) (W := W) (L := L) t1 d
      rw [← hd] at g1 g2
      exact ⟨_, rl_put (Nat.lt_of_lt_of_le t1 (Nat.pow_le_pow_right (by decide) (by omega))) (g1.trans t2) (g2.trans t3) h4 h2⟩
/-- the greatest count among the sets below m -/
def rl_Y (S W : Nat → Nat) (L c m q : Nat) : Prop := (q = 0 ∨ ∃ s e, rl_en S W L s c = some e ∧ rl_cn s c = q) ∧ ∀ s, s < m → ∀ e, rl_en S W L s c = some e → rl_cn s c ≤ q
theorem rl_Y_0 {S W : Nat → Nat} {L c : Nat} : rl_Y S W L c 0 0 := ⟨Or.inl rfl, fun s hs => absurd hs (Nat.not_lt_zero s)⟩
theorem rl_Y_le {S W : Nat → Nat} {L c m q : Nat} (h : rl_Y S W L c m q) (hm : rl_cn m c ≤ q) : rl_Y S W L c (m + 1) q := by
  refine ⟨h.1, fun s hs e he => ?_⟩
  by_cases z : s = m
  · subst z; exact hm
  · exact h.2 s (by omega) e he
theorem rl_Y_no {S W : Nat → Nat} {L c m q : Nat} (h : rl_Y S W L c m q) (hm : rl_en S W L m c = none) : rl_Y S W L c (m + 1) q := by
  refine ⟨h.1, fun s hs e he => ?_⟩
  by_cases z : s = m
  · subst z; rw [hm] at he; cases he
  · exact h.2 s (by omega) e he
theorem rl_Y_gt {S W : Nat → Nat} {L c m q e : Nat} (h : rl_Y S W L c m q) (hm : rl_en S W L m c = some e) (hq : q < rl_cn m c) : rl_Y S W L c (m + 1) (rl_cn m c) := by
  refine ⟨Or.inr ⟨m, e, hm, rfl⟩, fun s hs e he => ?_⟩
  by_cases z : s = m
  · subst z; exact Nat.le_refl _
  · have := h.2 s (by omega) e he; omega
theorem rl_Y_end {S W : Nat → Nat} {L c q : Nat} (h : rl_Y S W L c (2 ^ c) q) : rl_M S W L c q := by
  refine ⟨?_, fun a ha n hn => ?_⟩
  · rcases h.1 with h0 | ⟨s, e, h1, h2⟩
    · exact Or.inl h0
    · rcases rl_en_ck c e h1 with ⟨h3, _⟩ | ⟨j, hj, h3, _⟩
      · exact Or.inl (h2.symm.trans h3)
      · rw [h2] at h3; exact Or.inr ⟨j, hj, h3⟩
  · obtain ⟨s, s1, s2, s3⟩ := rl_ck_set n a hn
    obtain ⟨d, hd⟩ : ∃ d, c = (a + 1) + d := ⟨c - (a + 1), by omega⟩
    obtain ⟨g1, g2⟩ := rl_high (S := S) (W := W) (L := L) s1 d
    rw [← hd] at g1 g2
    have h4 := h.2 s (Nat.lt_of_lt_of_le s1 (Nat.pow_le_pow_right (by decide) (by omega))) _ (g2.trans s3)
    rw [g1, s2] at h4
    exact h4
end
section
/-! numbers, states, the relation -/
abbrev rl_A (W : Nat → Nat) : Nat → Int32 := fun j => nI (W j)
theorem rl_At {i : Nat} (W : Nat → Nat) (h : i < 2 ^ 31) : rl_A W (nI i).toNatClampNeg = nI (W i) := congrArg (fun j => nI (W j)) (nI_clamp h)
theorem rl_Tt {i : Nat} (T : Nat → Int32) (h : i < 2 ^ 31) : T (nI i).toNatClampNeg = T i := congrArg T (nI_clamp h)
def rl_pt (W : Nat → Nat) (k v : Nat) : Nat → Nat := fun j => if j = k then v else W j
theorem rl_pt_e (W : Nat → Nat) (k v : Nat) : rl_pt W k v k = v := if_pos rfl
theorem rl_pt_n {W : Nat → Nat} {k v j : Nat} (h : j ≠ k) : rl_pt W k v j = W j := if_neg h
theorem rl_pt_le {W : Nat → Nat} {k v m : Nat} (h : ∀ j, W j ≤ m) (hv : v ≤ m) : ∀ j, rl_pt W k v j ≤ m := by
  intro j
  by_cases e : j = k
  · subst e; rw [rl_pt_e]; exact hv
  · rw [rl_pt_n e]; exact h j
theorem rl_upd (W : Nat → Nat) {k : Nat} (v : Nat) (h : k < 2 ^ 31) : upd (rl_A W) (nI k).toNatClampNeg (nI v) = rl_A (rl_pt W k v) := by
  rw [nI_clamp h]
  funext j
  show (if j = k then nI v else nI (W j)) = nI (if j = k then v else W j)
  by_cases e : j = k
  · rw [if_pos e, if_pos e]
  · rw [if_neg e, if_neg e]
theorem rl_ut {T : Nat → Int32} {k : Nat} {x : Int32} (h : k < 2 ^ 31) : upd T (nI k).toNatClampNeg x = upd T k x := by rw [nI_clamp h]
theorem rl_A0 : (fun _ => 0 : Nat → Int32) = rl_A (fun _ => 0) := funext fun _ => nI_0.symm
theorem rl_ix (i y : Nat) : nI i * 61 + nI y = nI (i * 61 + y) := (congrArg (fun z => z + nI y) (pk_mul i 61)).trans (nI_add _ _)
theorem rl_ix1 (j y : Nat) : (nI (j + 1) - 1) * 61 + nI y = nI (j * 61 + y) := by rw [nI_pred]; exact rl_ix j y
theorem rl_ix2 (m : Nat) : (nI (m + 1) - 1) * 61 + 61 - 1 = nI (m * 61 + 60) := by
  rw [nI_pred]
  have h : nI m * 61 + 61 = nI (m * 61 + 60 + 1) := rl_ix m 61
  rw [h, nI_pred]
theorem rl_ix3 (i e : Nat) : nI i * 61 + nI (e + 1) - 1 = nI (i * 61 + e) := by
  rw [rl_ix, show i * 61 + (e + 1) = i * 61 + e + 1 from rfl, nI_pred]
theorem rl_neg (a b : Int32) : -(a - b) = b - a := by grind
theorem rl_lt_0 {v : Int32} {n : Nat} (h : nI n ≤ v) (hn : n < 2 ^ 31) : ∃ m : Nat, n ≤ m ∧ m < 2 ^ 31 ∧ v = nI m := by
  have h0 : ¬ v < 0 := by
    intro z
    have h1 : (0 : Int32) ≤ nI n := nI_pos' hn
    exact absurd (Int32.lt_of_lt_of_le z (Int32.le_trans h1 h)) (Int32.lt_irrefl)
  obtain ⟨m, hm, rfl⟩ := nI_of h0
  exact ⟨m, (nI_leI hn hm).mp h, hm, rfl⟩
/-- any number: below 0, or a natural -/
theorem rl_sg (v : Int32) : v < 0 ∨ ∃ m : Nat, m < 2 ^ 31 ∧ v = nI m := by
  by_cases h : v < 0
  · exact Or.inl h
  · exact Or.inr (nI_of h)
def rl_ok (L c : Nat) (W S G : Nat → Nat) : Prop := 10 ≤ L ∧ L ≤ 60 ∧ c ≤ 10 ∧ (∀ j, W j ≤ 5) ∧ (∀ j, S j ≤ 60) ∧ (∀ j, G j ≤ 5)
def rl_w (S G : Nat → Nat) (i x : Nat) : Nat := G i * (S i - x + (x - S i))
def rl_o (L : Nat) (W S G : Nat → Nat) (i x : Nat) : Nat := if x + W i ≤ L then rl_w S G i x else 1000000
theorem rl_o_y {L : Nat} {W S G : Nat → Nat} {i x : Nat} (h : x + W i ≤ L) : rl_o L W S G i x = rl_w S G i x := if_pos h
theorem rl_o_n {L : Nat} {W S G : Nat → Nat} {i x : Nat} (h : L < x + W i) : rl_o L W S G i x = 1000000 := if_neg (by omega)
theorem rl_w_b {L c : Nat} {W S G : Nat → Nat} (hk : rl_ok L c W S G) {i x : Nat} (hx : x ≤ 60) : rl_w S G i x ≤ 300 := by
  obtain ⟨_, _, _, _, hS, hG⟩ := hk
  have h1 := hS i
  exact Nat.mul_le_mul (hG i) (show S i - x + (x - S i) ≤ 60 by omega)
theorem rl_o_b {L c : Nat} {W S G : Nat → Nat} (hk : rl_ok L c W S G) (i x : Nat) : rl_o L W S G i x ≤ 300 ∨ rl_o L W S G i x = 1000000 := by
  by_cases h : x + W i ≤ L
  · rw [rl_o_y h]; exact Or.inl (rl_w_b hk (by have := hk.2.1; omega))
  · exact Or.inr (rl_o_n (by omega))
/-- the same with cell p held at e -/
def rl_q (L : Nat) (W S G : Nat → Nat) (p e : Nat) (i x : Nat) : Nat := if i = p ∧ x ≠ e then 1000000 else rl_o L W S G i x
theorem rl_q_n {L : Nat} {W S G : Nat → Nat} {p e i : Nat} (h : i ≠ p) (x : Nat) : rl_q L W S G p e i x = rl_o L W S G i x := if_neg (fun z => h z.1)
theorem rl_q_e {L : Nat} {W S G : Nat → Nat} {p e : Nat} : rl_q L W S G p e p e = rl_o L W S G p e := if_neg (fun z => z.2 rfl)
theorem rl_q_o {L : Nat} {W S G : Nat → Nat} {p e x : Nat} (h : x ≠ e) : rl_q L W S G p e p x = 1000000 := if_pos ⟨rfl, h⟩
abbrev rl_x (L c : Nat) (W S G : Nat → Nat) (T C : Nat → Int32) : SX := (nI L, nI c, rl_A W, rl_A S, rl_A G, T, C)
abbrev rl_y (L c : Nat) (W S G : Nat → Nat) (U D H : Nat → Int32) : SY := (nI L, nI c, rl_A W, rl_A S, rl_A G, U, D, H)
def i_Rel (k : Nat) (u : SX) (v : SY) : Prop := ∃ (L c : Nat) (W S G : Nat → Nat) (T C U D H : Nat → Int32), u = rl_x L c W S G T C ∧ v = rl_y L c W S G U D H ∧ rl_ok L c W S G
/-- one less, from a natural: 0 goes to -1 -/
def rl_dn (a : Nat) : Int32 := nI a + (-1)
theorem rl_dn_s (a : Nat) : rl_dn (a + 1) = nI a := pk_m1 a
theorem rl_dn_0 : rl_dn 0 < 0 := by decide
theorem rl_dn_lt {a j : Nat} (h : a ≤ j) (hj : j < 2 ^ 31) : rl_dn a < nI j := by
  cases a with
  | zero => exact Int32.lt_of_lt_of_le rl_dn_0 (nI_pos' hj)
  | succ a => rw [rl_dn_s]; exact nI_lt (by omega) hj
theorem rl_dn_m (a : Nat) : nI a - 1 = rl_dn a := by
  cases a with
  | zero => decide
  | succ a => rw [nI_pred, rl_dn_s]
theorem rl_dn_2 (a : Nat) : nI (a + 1) - 2 = rl_dn a := by
  have h : nI (a + 1) - 2 = nI (a + 1) - 1 - 1 := by grind
  rw [h, nI_pred, rl_dn_m]
/-- the answer for a least cost -/
def rl_an (v : Nat) : Int32 := if v = 1000000 then -6 else nI v
theorem rl_an_n : rl_an 1000000 = -6 := if_pos rfl
theorem rl_an_y {v : Nat} (h : v ≠ 1000000) : rl_an v = nI v := if_neg h
theorem rl_bit {s i : Nat} (hs : s < 2 ^ 31) (hi : i < 32) : nI s >>> (nI i &&& 31) &&& 1 = nI (s / 2 ^ i % 2) := by
  rw [pk_shrN hs (nI i &&& 31) i (s_l i hi)]
  exact pk_andN (n := s / 2 ^ i) (Nat.lt_of_le_of_lt (Nat.div_le_self _ _) (by omega)) 1 (by decide)
theorem rl_one {c : Nat} (hc : c ≤ 10) : (1 : Int32) <<< (nI c &&& 31) = nI (2 ^ c) := by
  have h2 : 2 ^ c ≤ 2 ^ 10 := Nat.pow_le_pow_right (by decide) hc
  have h := pk_shlN (n := 1) (nI c &&& 31) c (s_l c (by omega)) (by omega)
  rw [Nat.one_mul] at h
  exact h
def rl_sm (L : Nat) (W : Nat → Nat) : Nat → Int32
  | 0 => nI L
  | i + 1 => rl_sm L W i - nI (W i)
theorem rl_sm_s (L : Nat) (W : Nat → Nat) (i : Nat) : rl_sm L W (i + 1) = rl_sm L W i - nI (W i) := rfl
theorem rl_nn {v : Nat} (h : v < 2 ^ 31) : ¬ nI v = -6 := by
  intro z
  have h1 : (0 : Int32) ≤ nI v := nI_pos' h
  rw [z] at h1
  exact absurd h1 (by decide)
end
section
/-! the component's own methods -/
section
variable {L c : Nat} {W S G : Nat → Nat} {T C : Nat → Int32}
theorem rl_xBadY {post : Int32 → Prop} {v : Int32} (h : v < 0 ∨ nI c ≤ v) (hp : post 1) : wpX_isBadCell post (rl_x L c W S G T C) v := by
  by_cases h0 : v < 0
  · exact br_t h0 hp
  · have h1 : ¬ v < nI c := Int32.not_lt.mpr (h.resolve_left h0)
    exact br_f h0 (br_f h1 hp)
theorem rl_xBadN {post : Int32 → Prop} {j : Nat} (hj : j < c) (hc : c ≤ 10) (hp : post 0) : wpX_isBadCell post (rl_x L c W S G T C) (nI j) :=
  br_f (nI_pos (by omega)) (br_t (nI_lt hj (by omega)) hp)
theorem rl_xOwn {post : Int32 → Prop} (hk : rl_ok L c W S G) {i y : Nat} (hi : i < 10) (hy : y < 61) (h : post (nI (rl_w S G i y))) : wpX_ownCost post (rl_x L c W S G T C) (nI i) (nI y) := by
  have hS := hk.2.2.2.2.1 i
  refine ⟨vp_in_nI hi (by decide), ?_⟩
  have e : nI y - rl_A S (nI i).toNatClampNeg = nI y - nI (S i) := by rw [rl_At S (by omega)]
  refine nm_r e ?_
  refine ⟨vp_in_nI hi (by decide), ?_⟩
  by_cases hz : S i ≤ y
  · have e2 : nI y - nI (S i) = nI (y - S i) := pk_sub hz
    refine br_t (by rw [e2]; exact nI_pos' (by omega)) ?_
    have e3 : rl_A G (nI i).toNatClampNeg * (nI y - nI (S i)) = nI (rl_w S G i y) := by
      rw [rl_At G (by omega), e2, pk_mul]
      unfold rl_w
      rw [show S i - y = 0 by omega, Nat.zero_add]
    show post (rl_A G (nI i).toNatClampNeg * (nI y - nI (S i)))
    rw [e3]; exact h
  · have e2 : -(nI y - nI (S i)) = nI (S i - y) := by rw [rl_neg, pk_sub (by omega)]
    refine br_f (Int32.not_le.mpr (pk_sneg (by omega) (by omega))) ?_
    have e3 : rl_A G (nI i).toNatClampNeg * -(nI y - nI (S i)) = nI (rl_w S G i y) := by
      rw [rl_At G (by omega), e2, pk_mul]
      unfold rl_w
      rw [show y - S i = 0 by omega, Nat.add_zero]
    show post (rl_A G (nI i).toNatClampNeg * -(nI y - nI (S i)))
    rw [e3]; exact h
theorem rl_xBefore {post : Int32 → Prop} {o : Nat → Nat → Nat} (hk : rl_ok L c W S G) {i y : Nat} (hi : i < 10) (hy : y < 61)
    (hT : ∀ j, j + 1 = i → ∀ x, x < 61 → T (j * 61 + x) = nI (rl_lm (rl_U o W j) (x + 1)))
    (h : post (nI (rl_B o W i y))) : wpX_costBefore post (rl_x L c W S G T C) (nI i) (nI y) := by
  cases i with
  | zero => exact pk_eq 0 0 (fun _ => h) (fun z => absurd rfl z)
  | succ j =>
    refine pk_eq (j + 1) 0 (fun z => absurd z (by omega)) (fun _ => ?_)
    have ej : nI (j + 1) - 1 = nI j := nI_pred j
    have hw := hk.2.2.2.1 j
    refine ⟨pk_in j 10 (by omega) ej, ?_⟩
    have e : nI y - rl_A W (nI (j + 1) - 1).toNatClampNeg = nI y - nI (W j) := by rw [ej, rl_At W (by omega)]
    refine nm_r e ?_
    by_cases hz : W j ≤ y
    · have e2 : nI y - nI (W j) = nI (y - W j) := pk_sub hz
      refine br_t (by rw [e2]; exact nI_pos' (by omega)) ?_
      have e3 : (nI (j + 1) - 1) * 61 + (nI y - nI (W j)) = nI (j * 61 + (y - W j)) := by rw [e2, rl_ix1]
      refine ⟨pk_in (j * 61 + (y - W j)) 610 (by omega) e3, ?_⟩
      have e4 : T ((nI (j + 1) - 1) * 61 + (nI y - nI (W j))).toNatClampNeg = nI (rl_B o W (j + 1) y) := by
        rw [e3, nI_clamp (by omega), hT j rfl _ (by omega), rl_B_s, show y - W j + 1 = y + 1 - W j by omega]
      show post (T ((nI (j + 1) - 1) * 61 + (nI y - nI (W j))).toNatClampNeg)
      rw [e4]; exact h
    · refine br_f (Int32.not_le.mpr (pk_sneg (by omega) (by omega))) ?_
      have e5 : rl_B o W (j + 1) y = 1000000 := by rw [rl_B_s, show y + 1 - W j = 0 by omega]; rfl
      rw [e5] at h
      exact h
theorem rl_xFill {o : Nat → Nat → Nat} (hk : rl_ok L c W S G) {post : SX → Prop} (i a b : Nat) {xb : Int32} (eb : xb = nI b) (hi : i < 10) (ha : a ≤ 60) (hb : b ≤ 60)
    (ho : ∀ y, y < 61 → (a ≤ y ∧ y ≤ b → o i y = rl_w S G i y) ∧ (¬ (a ≤ y ∧ y ≤ b) → o i y = 1000000))
    (hT : ∀ j, j + 1 = i → ∀ x, x < 61 → T (j * 61 + x) = nI (rl_lm (rl_U o W j) (x + 1)))
    (h : ∀ T' : Nat → Int32, (∀ k, k < i * 61 → T' k = T k) → (∀ x, x < 61 → T' (i * 61 + x) = nI (rl_lm (rl_U o W i) (x + 1))) → post (rl_x L c W S G T' C)) :
    wpX_fillCell post (rl_x L c W S G T C) (nI i) (nI a) xb := by
  subst eb
  refine loop_0 (fun n y (T1 : Nat → Int32) => wX_fillCell_7 post (nI i) (nI a) (nI b) (nI L) (nI c) n (nI (rl_lm (rl_U o W i) y)) (nI y) (rl_A W) (rl_A S) (rl_A G) T1 C)
    (fun y T1 => (∀ k, k < i * 61 → T1 k = T k) ∧ ∀ x, x < y → T1 (i * 61 + x) = nI (rl_lm (rl_U o W i) (x + 1))) 61 T ⟨fun _ _ => rfl, fun x hx => absurd hx (Nat.not_lt_zero x)⟩ ?_ ?_
  · intro n T1 hI
    exact pk_le 61 61 (fun _ => h T1 hI.1 hI.2) (fun z => absurd z (by omega))
  · intro n y T1 hy hI k
    refine pk_le 61 y (fun z => absurd z (by omega)) (fun _ => ?_)
    have hl := rl_lm_le (rl_U o W i) y
    have hs := rl_lm_s (rl_U o W i) y
    have hu := rl_U_eq o W i y
    have hB := rl_B_le o W i y
    have hT1 : ∀ j, j + 1 = i → ∀ x, x < 61 → T1 (j * 61 + x) = nI (rl_lm (rl_U o W j) (x + 1)) := fun j hj x hx => (hI.1 _ (by omega)).trans (hT j hj x hx)
    have join : ∀ m, m = rl_lm (rl_U o W i) (y + 1) → wX_fillCell_54 post (wX_fillCell_7 post (nI i) (nI a) (nI b) (nI L) (nI c) n) (nI i) (nI a) (nI b) (nI m) (nI y) (nI L) (nI c) (rl_A W) (rl_A S) (rl_A G) T1 C := by
      intro m hm
      subst hm
      refine ⟨pk_in (i * 61 + y) 610 (by omega) (rl_ix i y), ?_⟩
      refine nm_r (e' := upd T1 (i * 61 + y) (nI (rl_lm (rl_U o W i) (y + 1)))) (by rw [rl_ix, nI_clamp (by omega)]) ?_
      refine nm_r (nI_1 y) ?_
      refine k _ ⟨fun k hk => (pk_un (by omega)).trans (hI.1 k hk), fun x hx => ?_⟩
      by_cases ex : x = y
      · subst ex; exact pk_us
      · exact (pk_un (by omega)).trans (hI.2 x (by omega))
    obtain ⟨hy1, hy2⟩ := ho y hy
    refine pk_lt y a (fun z => join _ ?_) (fun z1 => pk_lt b y (fun z2 => join _ ?_) (fun z2 => ?_))
    · have := hy2 (by omega); omega
    · have := hy2 (by omega); omega
    · have hw := rl_w_b hk (i := i) (x := y) (by omega)
      have ho1 := hy1 ⟨z1, z2⟩
      refine rl_xBefore hk (o := o) hi hy hT1 ?_
      refine rl_xOwn hk hi hy ?_
      refine nm_r (nI_add _ _) ?_
      refine pk_le (rl_lm (rl_U o W i) y) (rl_B o W i y + rl_w S G i y) (fun z => join _ ?_) (fun z => join _ ?_)
      · omega
      · omega
theorem rl_xLeast (hk : rl_ok L c W S G) {post : Int32 → SX → Prop} {n p e : Nat} {q : Int32} (hn : n ≤ c) (hq : ∀ i, i < 10 → (nI i = q ↔ i = p)) (he : e ≤ 60) (hp : p < n → e + W p ≤ L)
    (h0 : n = 0 → post 0 (rl_x L c W S G T C))
    (h : ∀ T' : Nat → Int32, 0 < n → (∀ i, i < n → ∀ x, x < 61 → T' (i * 61 + x) = nI (rl_lm (rl_U (rl_q L W S G p e) W i) (x + 1))) → post (rl_an (rl_lm (rl_U (rl_q L W S G p e) W (n - 1)) 61)) (rl_x L c W S G T' C)) :
    wpX_leastCost post (rl_x L c W S G T C) (nI n) q (nI e) := by
  have hc := hk.2.2.1
  have hL := hk.1
  have hL2 := hk.2.1
  refine pk_eq n 0 (fun z => h0 z) (fun z0 => ?_)
  refine loop_0 (fun m i (T1 : Nat → Int32) => wX_leastCost_9 post (nI n) q (nI e) m (nI i) (nI L) (nI c) (rl_A W) (rl_A S) (rl_A G) T1 C)
    (fun i T1 => ∀ a, a < i → ∀ x, x < 61 → T1 (a * 61 + x) = nI (rl_lm (rl_U (rl_q L W S G p e) W a) (x + 1))) n T (fun a ha => absurd ha (Nat.not_lt_zero a)) ?_ ?_
  · intro m T1 hI
    refine pk_le n n (fun _ => ?_) (fun z => absurd z (by omega))
    obtain ⟨b, rfl⟩ : ∃ b, n = b + 1 := ⟨n - 1, by omega⟩
    have h1 := h T1 (by omega) hI
    have hv := hI b (by omega) 60 (by omega)
    have hle := rl_lm_le (rl_U (rl_q L W S G p e) W b) 61
    have e1 : T1 ((nI (b + 1) - 1) * 61 + 61 - 1).toNatClampNeg = nI (rl_lm (rl_U (rl_q L W S G p e) W b) 61) := by rw [rl_ix2, nI_clamp (by omega)]; exact hv
    refine ⟨pk_in (b * 61 + 60) 610 (by omega) (rl_ix2 b), ?_⟩
    refine nm_r e1 ?_
    refine pk_lt (rl_lm (rl_U (rl_q L W S G p e) W b) 61) 1000000 (fun z => ?_) (fun z => ?_)
    · rw [Nat.add_sub_cancel, rl_an_y (by omega)] at h1; exact h1
    · have ev : rl_lm (rl_U (rl_q L W S G p e) W b) 61 = 1000000 := by omega
      rw [Nat.add_sub_cancel, ev, rl_an_n] at h1; exact h1
  · intro m i T1 hi hI k
    have hw := hk.2.2.2.1 i
    have hT1 : ∀ j, j + 1 = i → ∀ x, x < 61 → T1 (j * 61 + x) = nI (rl_lm (rl_U (rl_q L W S G p e) W j) (x + 1)) := fun j hj => hI j (by omega)
    have hk2 : ∀ T' : Nat → Int32, (∀ k, k < i * 61 → T' k = T1 k) → (∀ x, x < 61 → T' (i * 61 + x) = nI (rl_lm (rl_U (rl_q L W S G p e) W i) (x + 1))) → ∀ a, a < i + 1 → ∀ x, x < 61 → T' (a * 61 + x) = nI (rl_lm (rl_U (rl_q L W S G p e) W a) (x + 1)) := by
      intro T' g1 g2 a ha x hx
      by_cases ea : a = i
      · subst ea; exact g2 x hx
      · have : a * 61 + x < i * 61 := by omega
        rw [g1 _ this]; exact hI a (by omega) x hx
    refine pk_le n i (fun z => absurd z (by omega)) (fun _ => ?_)
    by_cases ep : i = p
    · refine br_t ((hq i (by omega)).mpr ep) ?_
      refine rl_xFill hk (o := rl_q L W S G p e) i e e rfl (by omega) he he ?_ hT1 ?_
      · intro y hy
        refine ⟨fun z => ?_, fun z => ?_⟩
        · have ey : y = e := by omega
          subst ey; subst ep
          rw [rl_q_e, rl_o_y (hp hi)]
        · subst ep; exact rl_q_o (by omega)
      · intro T' g1 g2
        refine nm_r (nI_1 i) ?_
        exact k T' (hk2 T' g1 g2)
    · refine br_f (fun z => ep ((hq i (by omega)).mp z)) ?_
      have e2 : nI L - rl_A W (nI i).toNatClampNeg = nI (L - W i) := by rw [rl_At W (by omega), pk_sub (by omega)]
      refine ⟨pk_in i 10 (by omega), ?_⟩
      refine rl_xFill hk (o := rl_q L W S G p e) i 0 (L - W i) e2 (by omega) (by omega) (by omega) ?_ hT1 ?_
      · intro y hy
        rw [rl_q_n ep]
        exact ⟨fun z => rl_o_y (by omega), fun z => rl_o_n (by omega)⟩
      · intro T' g1 g2
        refine nm_r (nI_1 i) ?_
        exact k T' (hk2 T' g1 g2)
theorem rl_xEdge {f : Nat → Nat} {post : Int32 → Prop} {i : Nat} (hi : i < 10) (hT : ∀ x, x < 61 → T (i * 61 + x) = nI (rl_lm f (x + 1))) : ∀ e, e ≤ 60 → post (nI (rl_fi f e)) → wX_leftmostEdge_8 post (nI i * 61) (nI L) (nI c) (rl_A W) (rl_A S) (rl_A G) T C (e + 1) (nI e) := by
  intro e
  induction e with
  | zero => intro _ h; exact pk_le 0 0 (fun _ => h) (fun z => absurd z (by omega))
  | succ e ih =>
    intro he h
    have e1 : T (nI i * 61 + nI (e + 1) - 1).toNatClampNeg = nI (rl_lm f (e + 1)) := by rw [rl_ix3, nI_clamp (by omega)]; exact hT e (by omega)
    have e2 : T (nI i * 61 + nI (e + 1)).toNatClampNeg = nI (rl_lm f (e + 2)) := by rw [rl_ix, nI_clamp (by omega)]; exact hT (e + 1) (by omega)
    have l1 := rl_lm_le f (e + 1)
    have l2 := rl_lm_le f (e + 2)
    rw [rl_fi_s] at h
    refine pk_le (e + 1) 0 (fun z => absurd z (by omega)) (fun _ => ?_)
    refine ⟨pk_in (i * 61 + e) 610 (by omega) (rl_ix3 i e), pk_in (i * 61 + (e + 1)) 610 (by omega) (rl_ix i (e + 1)), ?_⟩
    refine pk_eq (rl_lm f (e + 1)) (rl_lm f (e + 2)) (fun z => ?_) (fun z => ?_) e1 e2
    · rw [if_pos z] at h
      exact nm_r (pk_m1 e) (ih (by omega) h)
    · rw [if_neg z] at h
      exact h
theorem rl_xEdgeM {f : Nat → Nat} {post : Int32 → Prop} {i : Nat} {x0 xe : Int32} (e0 : x0 = nI i) (hi : i < 10) (hT : ∀ x, x < 61 → T (i * 61 + x) = nI (rl_lm f (x + 1))) (e : Nat) (ee : xe = nI e) (he : e ≤ 60) (h : post (nI (rl_fi f e))) : wpX_leftmostEdge post (rl_x L c W S G T C) x0 xe := by
  subst e0
  subst ee
  exact nm_e ⟨e + 1, rl_xEdge hi hT e he h⟩
end
end
section
section
variable {L c : Nat} {W S G : Nat → Nat} {T C : Nat → Int32}
theorem rl_xLeft (hk : rl_ok L c W S G) {post : Int32 → SX → Prop} {j : Nat} {o : Nat → Nat → Nat} (hT : ∀ i, i < c → ∀ x, x < 61 → T (i * 61 + x) = nI (rl_lm (rl_U o W i) (x + 1))) (hv : rl_lm (rl_U o W (c - 1)) 61 < 1000000)
    (h : post (nI (rl_ed o W c (c - 1 - j))) (rl_x L c W S G T C)) : ∀ t a, a = j + t → a < c → wX_leftmost_49 post (nI j) (nI L) (nI c) (rl_A W) (rl_A S) (rl_A G) T C (t + 1) (nI (rl_ed o W c (c - 1 - a))) (rl_dn a) := by
  have hc := hk.2.2.1
  intro t
  induction t with
  | zero =>
    intro a ha hac
    have ea : a = j := by omega
    subst ea
    exact br_t (rl_dn_lt (Nat.le_refl _) (by omega)) h
  | succ t ih =>
    intro a ha hac
    obtain ⟨b, rfl⟩ : ∃ b, a = b + 1 := ⟨j + t, by omega⟩
    obtain ⟨p1, p2⟩ := rl_path hv (c - 1 - (b + 1)) (by omega)
    obtain ⟨q1, _⟩ := rl_du_s (o := o) (W := W) (c := c) (d := c - 1 - (b + 1)) (by omega) p2
    obtain ⟨q2, _, _⟩ := rl_ed_ok o W c (c - 1 - (b + 1))
    have ed : c - 1 - (b + 1) + 1 = c - 1 - b := by omega
    have eb : c - 1 - (c - 1 - b) = b := by omega
    rw [ed, eb] at q1
    have el : rl_la o W c (c - 1 - b) = rl_ed o W c (c - 1 - (b + 1)) - W b := by
      have := rl_la_s o W c (c - 1 - (b + 1))
      rw [ed, eb] at this
      exact this
    rw [rl_dn_s]
    refine br_f (nI_nlt (by omega) (by omega)) ?_
    refine ⟨pk_in b 10 (by omega), ?_⟩
    have e2 : nI (rl_ed o W c (c - 1 - (b + 1))) - rl_A W (nI b).toNatClampNeg = nI (rl_la o W c (c - 1 - b)) := by rw [rl_At W (by omega), pk_sub q1, el]
    refine rl_xEdgeM (f := rl_U o W b) rfl (by omega) (hT b (by omega)) (rl_la o W c (c - 1 - b)) e2 (by omega) ?_
    refine nm_e ?_
    have ee : rl_fi (rl_U o W b) (rl_la o W c (c - 1 - b)) = rl_ed o W c (c - 1 - b) := by unfold rl_ed; rw [eb]
    rw [ee]
    exact ih b (by omega) (by omega)
theorem rl_xRoom {post : Int32 → Prop} (hk : rl_ok L c W S G) (h : post (rl_sm L W c)) : wpX_room post (rl_x L c W S G T C) := by
  have hc := hk.2.2.1
  refine loop_0 (fun n i (_ : Unit) => wX_room_7 post (nI L) (nI c) (rl_A W) (rl_A S) (rl_A G) T C n (rl_sm L W i) (nI i)) (fun _ _ => True) c () trivial ?_ ?_
  · intro n _ _
    exact pk_le c c (fun _ => h) (fun z => absurd z (by omega))
  · intro n i _ hi _ k
    refine pk_le c i (fun z => absurd z (by omega)) (fun _ => ?_)
    refine ⟨pk_in i 10 (by omega), ?_⟩
    refine nm_r (e' := rl_sm L W (i + 1)) (by rw [rl_At W (by omega), rl_sm_s]) ?_
    exact nm_r (nI_1 i) (k () trivial)
theorem rl_xChain {post : Int32 → Prop} (hk : rl_ok L c W S G) {j : Nat} (hj : j < c) (hC : ∀ a, a < j → ∃ q, C a = nI q ∧ rl_Q S W L a q) (h : ∀ q, rl_Q S W L j q → post (nI q)) : wpX_longestChainTo post (rl_x L c W S G T C) (nI j) := by
  have hc := hk.2.2.1
  have hL := hk.2.1
  have hvj : vp_in (nI j) 10 := vp_in_nI (by omega) (by decide)
  have hwj := hk.2.2.2.1 j
  have hSj := hk.2.2.2.2.1 j
  have eSW : rl_A S (nI j).toNatClampNeg + rl_A W (nI j).toNatClampNeg = nI (S j + W j) := by rw [rl_At S (by omega), rl_At W (by omega), nI_add]
  refine ⟨hvj, hvj, ?_⟩
  refine pk_le (S j + W j) L (fun z => ?_) (fun z => h 0 (rl_Q_bad z)) eSW
  refine loop_0 (fun n i (q : Nat) => wX_longestChainTo_26 post (nI j) (nI L) (nI c) (rl_A W) (rl_A S) (rl_A G) T C n (nI q) (nI i)) (fun i q => rl_P S W L j i q ∧ q ≤ 10) j 0 ⟨rl_P_0, by omega⟩ ?_ ?_
  · intro n q hI
    refine pk_le j j (fun _ => ?_) (fun z => absurd z (by omega))
    have := h (q + 1) (rl_P_end z hI.1)
    rw [← nI_1] at this
    exact this
  · intro n i q hi hI k
    refine pk_le j i (fun z => absurd z (by omega)) (fun _ => ?_)
    have hv : vp_in (nI i) 10 := vp_in_nI (by omega) (by decide)
    have hw := hk.2.2.2.1 i
    have hS := hk.2.2.2.2.1 i
    have eS : rl_A S (nI i).toNatClampNeg + rl_A W (nI i).toNatClampNeg = nI (S i + W i) := by rw [rl_At S (by omega), rl_At W (by omega), nI_add]
    have eJ := rl_At S (i := j) (by omega)
    obtain ⟨r, hr, hQ⟩ := hC i hi
    have hr1 := rl_Q_le hQ
    have er : C (nI i).toNatClampNeg = nI r := by rw [nI_clamp (by omega)]; exact hr
    refine ⟨hv, hv, hvj, ?_⟩
    refine pk_lt (S j) (S i + W i) (fun z1 => ?_) (fun z1 => ⟨hv, ?_⟩) eJ eS
    · exact nm_r (nI_1 i) (k q ⟨rl_P_no hI.1 (by omega), hI.2⟩)
    · refine pk_le r q (fun z2 => ?_) (fun z2 => ⟨hv, ?_⟩) er
      · exact nm_r (nI_1 i) (k q ⟨rl_P_le hI.1 hQ z2, hI.2⟩)
      · refine nm_r er ?_
        exact nm_r (nI_1 i) (k r ⟨rl_P_gt hI.1 z1 hQ z2, by omega⟩)
theorem rl_xContent {post : Int32 → SX → Prop} (hk : rl_ok L c W S G) (h : ∀ q C', rl_M S W L c q → post (nI q) (rl_x L c W S G T C')) : wpX_content post (rl_x L c W S G T C) := by
  have hc := hk.2.2.1
  refine loop_0 (fun n i (s : Nat × (Nat → Int32)) => wX_content_4 post (nI L) (nI c) n (nI s.1) (nI i) (rl_A W) (rl_A S) (rl_A G) T s.2) (fun i s => (rl_M S W L i s.1 ∧ s.1 ≤ 10) ∧ ∀ a, a < i → ∃ q, s.2 a = nI q ∧ rl_Q S W L a q) c (0, C) ⟨⟨rl_M_0, Nat.zero_le 10⟩, fun a ha => absurd ha (Nat.not_lt_zero a)⟩ ?_ ?_
  · intro n s hI
    exact pk_le c c (fun _ => h s.1 s.2 hI.1.1) (fun z => absurd z (by omega))
  · intro n i s hi hI k
    obtain ⟨m, C1⟩ := s
    obtain ⟨⟨hM, hm⟩, hC⟩ := hI
    dsimp only at hM hm hC ⊢
    refine pk_le c i (fun z => absurd z (by omega)) (fun _ => ?_)
    have hv : vp_in (nI i) 10 := vp_in_nI (by omega) (by decide)
    refine rl_xChain hk hi hC (fun r hQ => ?_)
    have hr := rl_Q_le hQ
    refine ⟨hv, ?_⟩
    refine nm_r (rl_ut (by omega)) ?_
    have hC2 : ∀ a, a < i + 1 → ∃ q, upd C1 i (nI r) a = nI q ∧ rl_Q S W L a q := by
      intro a ha
      by_cases ea : a = i
      · subst ea; exact ⟨r, pk_us, hQ⟩
      · obtain ⟨q, h1, h2⟩ := hC a (by omega)
        exact ⟨q, (pk_un ea).trans h1, h2⟩
    have er : upd C1 i (nI r) (nI i).toNatClampNeg = nI r := by rw [nI_clamp (by omega)]; exact pk_us
    refine ⟨hv, ?_⟩
    refine pk_le r m (fun z => ?_) (fun z => ⟨hv, ?_⟩) er
    · exact nm_r (nI_1 i) (k (m, _) ⟨⟨rl_M_le hM hQ z, hm⟩, hC2⟩)
    · refine nm_r er ?_
      exact nm_r (nI_1 i) (k (r, _) ⟨⟨rl_M_gt hM hQ z, by omega⟩, hC2⟩)
end
end
section
/-! the reference's own methods -/
section
variable {L c : Nat} {W S G : Nat → Nat} {U D H : Nat → Int32}
theorem rl_yBadY {post : Int32 → Prop} {v : Int32} (h : v < 0 ∨ nI c ≤ v) (hp : post 1) : wpY_badCell post (rl_y L c W S G U D H) v := by
  by_cases h0 : v < 0
  · exact br_t h0 hp
  · have h1 : ¬ v < nI c := Int32.not_lt.mpr (h.resolve_left h0)
    exact br_f h0 (br_f h1 hp)
theorem rl_yBadN {post : Int32 → Prop} {j : Nat} (hj : j < c) (hc : c ≤ 10) (hp : post 0) : wpY_badCell post (rl_y L c W S G U D H) (nI j) :=
  br_f (nI_pos (by omega)) (br_t (nI_lt hj (by omega)) hp)
theorem rl_yOwn {post : Int32 → Prop} (hk : rl_ok L c W S G) {i x : Nat} (hi : i < 10) (hx : x < 61) (h : post (nI (rl_o L W S G i x))) : wpY_own post (rl_y L c W S G U D H) (nI i) (nI x) := by
  have hS := hk.2.2.2.2.1 i
  have hw := hk.2.2.2.1 i
  have hL := hk.2.1
  have eW : nI x + rl_A W (nI i).toNatClampNeg = nI (x + W i) := by rw [rl_At W (by omega), nI_add]
  have eS := rl_At S (i := i) (by omega)
  have eG := rl_At G (i := i) (by omega)
  have hv : vp_in (nI i) 10 := vp_in_nI hi (by decide)
  refine br_f (nI_pos (by omega)) ⟨hv, ?_⟩
  refine pk_le (x + W i) L (fun z => ?_) (fun z => ?_) eW
  · rw [rl_o_y z] at h
    refine ⟨hv, ?_⟩
    refine pk_le (S i) x (fun z => ⟨hv, ?_⟩) (fun z => ⟨hv, ?_⟩) eS
    · have e3 : rl_A G (nI i).toNatClampNeg * (nI x - rl_A S (nI i).toNatClampNeg) = nI (rl_w S G i x) := by
        rw [eG, eS, pk_sub z, pk_mul]
        unfold rl_w
        rw [show S i - x = 0 by omega, Nat.zero_add]
      refine ⟨hv, ?_⟩
      rw [e3]; exact h
    · have e3 : rl_A G (nI i).toNatClampNeg * (rl_A S (nI i).toNatClampNeg - nI x) = nI (rl_w S G i x) := by
        rw [eG, eS, pk_sub (by omega), pk_mul]
        unfold rl_w
        rw [show x - S i = 0 by omega, Nat.add_zero]
      refine ⟨hv, ?_⟩
      rw [e3]; exact h
  · rw [rl_o_n z] at h; exact h
theorem rl_yMin {post : Int32 → Prop} {a b : Nat} {xa xb : Int32} (ea : xa = nI a) (eb : xb = nI b) (ha : a < 2 ^ 31) (hb : b < 2 ^ 31) (h : post (nI (min a b))) : wpY_least post (rl_y L c W S G U D H) xa xb := by
  subst ea
  subst eb
  refine pk_le b a (fun z => ?_) (fun z => ?_)
  · rw [Nat.min_eq_right z] at h; exact h
  · rw [Nat.min_eq_left (Nat.le_of_lt z)] at h; exact h
theorem rl_ySum {post : Int32 → Prop} {a b : Nat} {xa xb : Int32} (ea : xa = nI a) (eb : xb = nI b) (hab : a + b < 2 ^ 31) (h : post (nI (min (a + b) 1000000))) : wpY_sum post (rl_y L c W S G U D H) xa xb := by
  subst ea
  subst eb
  unfold wpY_sum
  exact rl_yMin (a := a + b) (b := 1000000) (nI_add a b) rfl hab (by omega) h
theorem rl_yUp (hk : rl_ok L c W S G) {post : SY → Prop} {n : Nat} (hn : n ≤ c)
    (h : ∀ U' : Nat → Int32, (∀ i, i < n → ∀ x, x < 61 → U' (i * 61 + x) = nI (rl_U (rl_o L W S G) W i x)) → post (rl_y L c W S G U' D H)) :
    wpY_fillUp post (rl_y L c W S G U D H) (nI n) := by
  have hc := hk.2.2.1
  refine loop_0 (fun m i (U1 : Nat → Int32) => wY_fillUp_2 post (nI n) (nI L) (nI c) m (nI i) (rl_A W) (rl_A S) (rl_A G) U1 D H)
    (fun i U1 => ∀ a, a < i → ∀ x, x < 61 → U1 (a * 61 + x) = nI (rl_U (rl_o L W S G) W a x)) n U (fun a ha => absurd ha (Nat.not_lt_zero a)) ?_ ?_
  · intro m U1 hI
    exact pk_le n n (fun _ => h U1 hI) (fun z => absurd z (by omega))
  · intro m i U1 hi hI k
    refine pk_le n i (fun z => absurd z (by omega)) (fun _ => ?_)
    have inner : ∀ s : Int32, s = nI (rl_b (rl_o L W S G) W i 0) → ∃ n1, wY_fillUp_21 post (wY_fillUp_2 post (nI n) (nI L) (nI c) m) (nI n) (nI i) (nI L) (nI c) n1 s 0 (rl_A W) (rl_A S) (rl_A G) U1 D H := by
      intro s es
      subst es
      refine loop_0 (fun n1 x (U2 : Nat → Int32) => wY_fillUp_21 post (wY_fillUp_2 post (nI n) (nI L) (nI c) m) (nI n) (nI i) (nI L) (nI c) n1 (nI (rl_b (rl_o L W S G) W i x)) (nI x) (rl_A W) (rl_A S) (rl_A G) U2 D H)
        (fun x U2 => (∀ k, k < i * 61 → U2 k = U1 k) ∧ ∀ y, y < x → U2 (i * 61 + y) = nI (rl_U (rl_o L W S G) W i y)) 61 U1 ⟨fun _ _ => rfl, fun y hy => absurd hy (Nat.not_lt_zero y)⟩ ?_ ?_
      · intro n1 U2 hJ
        refine pk_le 61 61 (fun _ => ?_) (fun z => absurd z (by omega))
        refine nm_r (nI_1 i) ?_
        refine k U2 (fun a ha x hx => ?_)
        by_cases ea : a = i
        · subst ea; exact hJ.2 x hx
        · have : a * 61 + x < i * 61 := by omega
          rw [hJ.1 _ this]; exact hI a (by omega) x hx
      · intro n1 x U2 hx hJ k1
        refine pk_le 61 x (fun z => absurd z (by omega)) (fun _ => ?_)
        have hob := rl_o_b hk i x
        have hB := rl_B_le (rl_o L W S G) W i x
        have join : ∀ m1, m1 = rl_B (rl_o L W S G) W i x → wY_fillUp_74 post (wY_fillUp_2 post (nI n) (nI L) (nI c) m) (wY_fillUp_21 post (wY_fillUp_2 post (nI n) (nI L) (nI c) m) (nI n) (nI i) (nI L) (nI c) n1) (nI n) (nI i) (nI m1) (nI x) (nI L) (nI c) (rl_A W) (rl_A S) (rl_A G) U2 D H := by
          intro m1 em
          subst em
          refine rl_yOwn hk (by omega) hx ?_
          refine rl_ySum rfl rfl (by omega) ?_
          refine ⟨pk_in (i * 61 + x) 610 (by omega) (rl_ix i x), ?_⟩
          refine nm_r (e' := upd U2 (i * 61 + x) (nI (rl_U (rl_o L W S G) W i x))) (by rw [rl_ix, nI_clamp (by omega), rl_U_eq]) ?_
          refine nm_r (nI_1 x) ?_
          rw [rl_B_b]
          refine k1 _ ⟨fun k hk => (pk_un (by omega)).trans (hJ.1 k hk), fun y hy => ?_⟩
          by_cases ey : y = x
          · subst ey; exact pk_us
          · exact (pk_un (by omega)).trans (hJ.2 y (by omega))
        by_cases hz : i = 0
        · refine br_t (by rw [hz]; rfl) ?_
          refine br_t (by decide) ?_
          refine join _ ?_
          subst hz
          rfl
        · obtain ⟨j, rfl⟩ : ∃ j, i = j + 1 := ⟨i - 1, by omega⟩
          have ej : nI (j + 1) - 1 = nI j := nI_pred j
          have hw := hk.2.2.2.1 j
          have e : nI x - rl_A W (nI (j + 1) - 1).toNatClampNeg = nI x - nI (W j) := by rw [ej, rl_At W (by omega)]
          refine br_f (nI_ne0 (by omega) (by omega)) ⟨pk_in j 10 (by omega) ej, ?_⟩
          have go : ∀ z0 : Int32, z0 = nI x - nI (W j) → wY_fillUp_47 post (wY_fillUp_2 post (nI n) (nI L) (nI c) m) (wY_fillUp_21 post (wY_fillUp_2 post (nI n) (nI L) (nI c) m) (nI n) (nI (j + 1)) (nI L) (nI c) n1) (nI n) (nI (j + 1)) (nI (rl_b (rl_o L W S G) W (j + 1) x)) (nI x) z0 (nI L) (nI c) (rl_A W) (rl_A S) (rl_A G) U2 D H := by
            intro z0 ez
            by_cases hz : W j ≤ x
            · have e2 : z0 = nI (x - W j) := by rw [ez, pk_sub hz]
              subst e2
              have e3 : (nI (j + 1) - 1) * 61 + nI (x - W j) = nI (j * 61 + (x - W j)) := rl_ix1 j (x - W j)
              have e4 : U2 ((nI (j + 1) - 1) * 61 + nI (x - W j)).toNatClampNeg = nI (rl_U (rl_o L W S G) W j (x - W j)) := by
                rw [e3, nI_clamp (by omega), hJ.1 _ (by omega)]
                exact hI j (by omega) _ (by omega)
              have hb := rl_b_le (rl_o L W S G) W (j + 1) x
              have hu := rl_U_le (rl_o L W S G) W j (x - W j)
              refine br_f (nI_pos (by omega)) ⟨pk_in (j * 61 + (x - W j)) 610 (by omega) e3, ?_⟩
              refine rl_yMin rfl e4 (by omega) (by omega) ?_
              refine join _ ?_
              rw [rl_B_b, rl_b_y hz]
            · refine br_t (by rw [ez]; exact pk_sneg (by omega) (by omega)) ?_
              refine join _ ?_
              rw [rl_B_b, rl_b_n (by omega)]
          exact go _ e
    refine pk_eq i 0 (fun z => inner _ ?_) (fun z => inner _ ?_)
    · subst z; rfl
    · obtain ⟨j, rfl⟩ : ∃ j, i = j + 1 := ⟨i - 1, by omega⟩
      rw [rl_b_s, Nat.zero_sub]
      rfl
theorem rl_yLeastUp {f : Nat → Nat} {post : Int32 → Prop} {i : Nat} {xi : Int32} (ei : xi = nI i) (hi : i < 10) (hf : ∀ x, x < 61 → U (i * 61 + x) = nI (f x)) (hb : ∀ x, f x ≤ 1000000) (h : post (nI (rl_lm f 61))) : wpY_leastUp post (rl_y L c W S G U D H) xi := by
  subst ei
  refine loop_0 (fun n x (_ : Unit) => wY_leastUp_5 post (nI i) (nI L) (nI c) (rl_A W) (rl_A S) (rl_A G) U D H n (nI (rl_lm f x)) (nI x)) (fun _ _ => True) 61 () trivial ?_ ?_
  · intro n _ _
    exact pk_le 61 61 (fun _ => h) (fun z => absurd z (by omega))
  · intro n x _ hx _ k
    refine pk_le 61 x (fun z => absurd z (by omega)) (fun _ => ?_)
    have e1 : U (nI i * 61 + nI x).toNatClampNeg = nI (f x) := by rw [rl_ix, nI_clamp (by omega)]; exact hf x hx
    refine ⟨pk_in (i * 61 + x) 610 (by omega) (rl_ix i x), ?_⟩
    have := hb x
    have := rl_lm_le f x
    refine rl_yMin rfl e1 (by omega) (by omega) ?_
    rw [← rl_lm_s]
    refine nm_r (nI_1 x) ?_
    exact k () trivial
theorem rl_yDown (hk : rl_ok L c W S G) {post : SY → Prop}
    (h : ∀ D' : Nat → Int32, (∀ j, j < c → ∀ x, x < 61 → D' ((c - 1 - j) * 61 + x) = nI (rl_D (rl_o L W S G) W c j x)) → post (rl_y L c W S G U D' H)) :
    wpY_fillDown post (rl_y L c W S G U D H) := by
  have hc := hk.2.2.1
  have key : wY_fillDown_7 post (nI L) (nI c) (c + 1) (rl_dn c) (rl_A W) (rl_A S) (rl_A G) U D H := by
    refine pk_loopD (fun m a (D1 : Nat → Int32) => wY_fillDown_7 post (nI L) (nI c) m (rl_dn a) (rl_A W) (rl_A S) (rl_A G) U D1 H)
      (fun a D1 => a ≤ c ∧ ∀ j, a + j < c → ∀ x, x < 61 → D1 ((c - 1 - j) * 61 + x) = nI (rl_D (rl_o L W S G) W c j x)) ?_ ?_ c D ⟨Nat.le_refl _, fun j hj => absurd hj (by omega)⟩
    · intro m D1 hI
      exact br_t rl_dn_0 (h D1 (fun j hj => hI.2 j (by omega)))
    · intro m a D1 hI k
      obtain ⟨ha, hI⟩ := hI
      rw [rl_dn_s]
      refine br_f (nI_pos (by omega)) ?_
      have hw := hk.2.2.2.1 a
      have hv : vp_in (nI a) 10 := vp_in_nI (by omega) (by decide)
      have eW := rl_At W (i := a) (by omega)
      have ecj : c - 1 - (c - 1 - a) = a := by omega
      have ec : nI c - 1 = nI (c - 1) := by
        obtain ⟨c1, rfl⟩ : ∃ c1, c = c1 + 1 := ⟨c - 1, by omega⟩
        rw [nI_pred, Nat.add_sub_cancel]
      have inner : ∀ s : Int32, s = nI (rl_R (rl_o L W S G) W c (c - 1 - a) 61) → ∃ n1, wY_fillDown_31 post (wY_fillDown_7 post (nI L) (nI c) m) (nI a) (nI L) (nI c) n1 s 60 (rl_A W) (rl_A S) (rl_A G) U D1 H := by
        intro s es
        subst es
        refine ⟨62, pk_loopD (fun n1 b (D2 : Nat → Int32) => wY_fillDown_31 post (wY_fillDown_7 post (nI L) (nI c) m) (nI a) (nI L) (nI c) n1 (nI (rl_R (rl_o L W S G) W c (c - 1 - a) b)) (rl_dn b) (rl_A W) (rl_A S) (rl_A G) U D2 H)
          (fun b D2 => b ≤ 61 ∧ (∀ k, (a + 1) * 61 ≤ k → D2 k = D1 k) ∧ ∀ x, b ≤ x → x < 61 → D2 (a * 61 + x) = nI (rl_D (rl_o L W S G) W c (c - 1 - a) x)) ?_ ?_ 61 D1 ⟨Nat.le_refl _, fun _ _ => rfl, fun x h1 h2 => absurd h1 (by omega)⟩⟩
        · intro n1 D2 hJ
          refine br_t rl_dn_0 ?_
          refine nm_e ?_
          refine k D2 ⟨by omega, fun j hj x hx => ?_⟩
          by_cases ej : j = c - 1 - a
          · subst ej; rw [ecj]; exact hJ.2.2 x (Nat.zero_le _) hx
          · rw [hJ.2.1 _ (by have : a + 1 ≤ c - 1 - j := by omega
                             have := Nat.mul_le_mul_right 61 this
                             omega)]
            exact hI j (by omega) x hx
        · intro n1 b D2 hJ k1
          obtain ⟨hb, hJ1, hJ2⟩ := hJ
          rw [rl_dn_s]
          refine br_f (nI_pos (by omega)) ?_
          refine ⟨hv, ?_⟩
          have hob := rl_o_b hk a b
          have hR := rl_R_le (rl_o L W S G) W c (c - 1 - a) b
          have eb : nI b + rl_A W (nI a).toNatClampNeg = nI (b + W a) := by rw [eW, nI_add]
          refine nm_r eb ?_
          have join : ∀ m1, m1 = rl_R (rl_o L W S G) W c (c - 1 - a) b → wY_fillDown_82 post (wY_fillDown_7 post (nI L) (nI c) m) (wY_fillDown_31 post (wY_fillDown_7 post (nI L) (nI c) m) (nI a) (nI L) (nI c) n1) (nI a) (nI m1) (nI b) (nI L) (nI c) (rl_A W) (rl_A S) (rl_A G) U D2 H := by
            intro m1 em
            subst em
            refine rl_yOwn hk (by omega) (by omega) ?_
            refine rl_ySum rfl rfl (by omega) ?_
            refine ⟨pk_in (a * 61 + b) 610 (by omega) (rl_ix a b), ?_⟩
            have eD : min (rl_R (rl_o L W S G) W c (c - 1 - a) b + rl_o L W S G a b) 1000000 = rl_D (rl_o L W S G) W c (c - 1 - a) b := by rw [rl_D_eq, ecj]
            refine nm_r (e' := upd D2 (a * 61 + b) (nI (rl_D (rl_o L W S G) W c (c - 1 - a) b))) (by rw [rl_ix, nI_clamp (by omega), eD]) ?_
            refine nm_e ?_
            refine k1 _ ⟨by omega, fun k hk => (pk_un (by omega)).trans (hJ1 k hk), fun x h1 h2 => ?_⟩
            by_cases ex : x = b
            · subst ex; exact pk_us
            · exact (pk_un (by omega)).trans (hJ2 x (by omega) h2)
          by_cases hl : a + 1 = c
          · have e0 : c - 1 - a = 0 := by omega
            refine pk_le (c - 1) a (fun _ => join _ ?_) (fun z => absurd z (by omega)) ec
            rw [e0]; rfl
          · obtain ⟨j, hj⟩ : ∃ j, c - 1 - a = j + 1 := ⟨c - 1 - (a + 1), by omega⟩
            have ea : c - 1 - (j + 1) = a := by omega
            have eaj : c - 1 - j = a + 1 := by omega
            refine pk_le (c - 1) a (fun z => absurd z (by omega)) (fun _ => ?_) ec
            refine pk_le 61 (b + W a) (fun z => join _ ?_) (fun z => ?_)
            · rw [hj, rl_R_n (x := b) (by rw [ea]; exact z)]
            · have ei : (nI a + 1) * 61 + nI (b + W a) = nI ((a + 1) * 61 + (b + W a)) := by rw [nI_1, rl_ix]
              have ev : D2 ((nI a + 1) * 61 + nI (b + W a)).toNatClampNeg = nI (rl_D (rl_o L W S G) W c j (b + W a)) := by
                rw [ei, nI_clamp (by omega), hJ1 _ (by omega), ← eaj]
                exact hI j (by omega) _ z
              refine ⟨pk_in ((a + 1) * 61 + (b + W a)) 610 (by omega) ei, ?_⟩
              have hDl := rl_D_le (rl_o L W S G) W c j (b + W a)
              have hR2 := rl_R_le (rl_o L W S G) W c (c - 1 - a) (b + 1)
              refine rl_yMin rfl ev (by omega) (by omega) (join _ ?_)
              have hy := rl_R_y (o := rl_o L W S G) (W := W) (c := c) (j := j) (x := b) (by rw [ea]; exact z)
              rw [hj, hy, ea]
      refine pk_eq a (c - 1) (fun z => inner _ ?_) (fun z => inner _ ?_) rfl ec
      · rw [show c - 1 - a = 0 by omega]; rfl
      · obtain ⟨j, hj⟩ : ∃ j, c - 1 - a = j + 1 := ⟨c - 1 - (a + 1), by omega⟩
        rw [hj, rl_R_61]; rfl
  exact nm_r (rl_dn_m c) ⟨_, key⟩
end
end
section
section
variable {L c : Nat} {W S G : Nat → Nat} {U D H : Nat → Int32}
theorem rl_yRoom {post : Int32 → Prop} (hk : rl_ok L c W S G) (h : post (rl_sm L W c)) : wpY_room post (rl_y L c W S G U D H) := by
  have hc := hk.2.2.1
  refine loop_0 (fun n i (_ : Unit) => wY_room_7 post (nI L) (nI c) (rl_A W) (rl_A S) (rl_A G) U D H n (rl_sm L W i) (nI i)) (fun _ _ => True) c () trivial ?_ ?_
  · intro n _ _
    exact pk_le c c (fun _ => h) (fun z => absurd z (by omega))
  · intro n i _ hi _ k
    refine pk_le c i (fun z => absurd z (by omega)) (fun _ => ?_)
    refine ⟨pk_in i 10 (by omega), ?_⟩
    refine nm_r (e' := rl_sm L W (i + 1)) (by rw [rl_At W (by omega), rl_sm_s]) ?_
    exact nm_r (nI_1 i) (k () trivial)
theorem rl_yAll (hk : rl_ok L c W S G) {post : Int32 → Prop} {s : Nat} (hs : s < 2 ^ 10) (h1 : ∀ e, rl_en S W L s c = some e → post 1) (h0 : rl_en S W L s c = none → post 0) : wpY_allContent post (rl_y L c W S G U D H) (nI s) := by
  have hc := hk.2.2.1
  have hL := hk.2.1
  refine loop_0 (fun n i (e : Nat) => wY_allContent_4 post (nI s) (nI L) (nI c) (rl_A W) (rl_A S) (rl_A G) U D H n (nI e) (nI i)) (fun i e => rl_en S W L s i = some e ∧ e ≤ 65) c 0 ⟨rfl, by omega⟩ ?_ ?_
  · intro n e hI
    exact pk_le c c (fun _ => h1 e hI.1) (fun z => absurd z (by omega))
  · intro n i e hi hI k
    refine pk_le c i (fun z => absurd z (by omega)) (fun _ => ?_)
    have hw := hk.2.2.2.1 i
    have hS := hk.2.2.2.2.1 i
    have hv : vp_in (nI i) 10 := vp_in_nI (by omega) (by decide)
    have eW := rl_At W (i := i) (by omega)
    have eS := rl_At S (i := i) (by omega)
    have eSW : rl_A S (nI i).toNatClampNeg + rl_A W (nI i).toNatClampNeg = nI (S i + W i) := by rw [eS, eW, nI_add]
    have hbt : s / 2 ^ i % 2 < 2 := Nat.mod_lt _ (by decide)
    have none_ : rl_en S W L s (i + 1) = none → rl_en S W L s c = none := by
      intro z
      have := rl_en_n z (c - (i + 1))
      rw [show i + 1 + (c - (i + 1)) = c by omega] at this
      exact this
    refine pk_eq (s / 2 ^ i % 2) 1 (fun z => ?_) (fun z => ?_) (rl_bit (by omega) (by omega))
    · refine ⟨hv, ?_⟩
      refine pk_lt (S i) e (fun z1 => ?_) (fun z1 => ⟨hv, hv, ?_⟩) eS
      · exact h0 (none_ (by rw [rl_en_s, hI.1, rl_es_b z (Or.inl z1)]))
      · refine pk_le (S i + W i) L (fun z2 => ⟨hv, hv, ?_⟩) (fun z2 => ?_) eSW
        · refine nm_r eSW ?_
          refine nm_r (nI_1 i) ?_
          exact k (S i + W i) ⟨by rw [rl_en_s, hI.1, rl_es_1 z (by omega)], by omega⟩
        · exact h0 (none_ (by rw [rl_en_s, hI.1, rl_es_b z (Or.inr z2)]))
    · refine nm_r (nI_1 i) ?_
      exact k e ⟨by rw [rl_en_s, hI.1, rl_es_0 z], hI.2⟩
theorem rl_yContent (hk : rl_ok L c W S G) {post : Int32 → Prop} (h : ∀ q, rl_M S W L c q → post (nI q)) : wpY_content post (rl_y L c W S G U D H) := by
  have hc := hk.2.2.1
  have h2 : 2 ^ c ≤ 2 ^ 10 := Nat.pow_le_pow_right (by decide) hc
  have h1024 : 2 ^ 10 = 1024 := rfl
  refine loop_0 (fun n s (q : Nat) => wY_content_4 post (nI L) (nI c) (rl_A W) (rl_A S) (rl_A G) U D H n (nI q) (nI s)) (fun s q => rl_Y S W L c s q ∧ q ≤ 10) (2 ^ c) 0 ⟨rl_Y_0, by omega⟩ ?_ ?_
  · intro n q hI
    exact pk_le (2 ^ c) (2 ^ c) (fun _ => h q (rl_Y_end hI.1)) (fun z => absurd z (by omega)) (rl_one hc) rfl (by omega) (by omega)
  · intro n s q hs hI k
    refine pk_le (2 ^ c) s (fun z => absurd z (by omega)) (fun _ => ?_) (rl_one hc) rfl (by omega) (by omega)
    refine loop_0 (fun n1 i (_ : Unit) => wY_content_19 post (wY_content_4 post (nI L) (nI c) (rl_A W) (rl_A S) (rl_A G) U D H n) (nI q) (nI s) (nI L) (nI c) (rl_A W) (rl_A S) (rl_A G) U D H n1 (nI (rl_cn s i)) (nI i)) (fun _ _ => True) c () trivial ?_ ?_
    · intro n1 _ _
      refine pk_le c c (fun _ => ?_) (fun z => absurd z (by omega))
      have hcn := rl_cn_le s c
      refine pk_le (rl_cn s c) q (fun z => ?_) (fun z => ?_)
      · exact nm_r (nI_1 s) (k q ⟨rl_Y_le hI.1 z, hI.2⟩)
      · refine rl_yAll hk (by omega) (fun e he => ?_) (fun he => ?_)
        · refine br_f (by decide) ?_
          exact nm_r (nI_1 s) (k (rl_cn s c) ⟨rl_Y_gt hI.1 he z, by omega⟩)
        · refine br_t rfl ?_
          exact nm_r (nI_1 s) (k q ⟨rl_Y_no hI.1 he, hI.2⟩)
    · intro n1 i _ hi _ k1
      refine pk_le c i (fun z => absurd z (by omega)) (fun _ => ?_)
      refine nm_r (e' := nI (rl_cn s (i + 1))) (by rw [rl_bit (by omega) (by omega), nI_add, rl_cn_s]) ?_
      refine nm_r (nI_1 i) ?_
      exact k1 () trivial
theorem rl_yFind {f : Nat → Nat} {post : Int32 → SY → Prop} {J : Int32 → Int32 → Int32 → (Nat → Int32) → (Nat → Int32) → (Nat → Int32) → (Nat → Int32) → (Nat → Int32) → (Nat → Int32) → Prop} {i e r v : Nat} {x1 : Int32} (hi : i < 10) (he : e ≤ 60) (hr : r ≤ e) (hU : ∀ x, x < 61 → U (i * 61 + x) = nI (f x)) (hf : ∀ x, f x ≤ 1000000) (hv : v ≤ 1000000) (h1 : f r = v) (h2 : ∀ x, x < r → f x ≠ v)
    (hE : wY_leftmost_100 post J x1 (nI v) (nI i) (nI r) (nI L) (nI c) (rl_A W) (rl_A S) (rl_A G) U D H) :
    ∀ t x, x + t = r → wY_leftmost_62 post J x1 (nI v) (nI e) (nI i) (nI L) (nI c) (rl_A W) (rl_A S) (rl_A G) U D H (t + 2) (-1) (nI x) := by
  intro t
  induction t with
  | zero =>
    intro x hx
    have ex : x = r := by omega
    subst ex
    have eU : U (nI i * 61 + nI x).toNatClampNeg = nI (f x) := by rw [rl_ix, nI_clamp (by omega)]; exact hU x (by omega)
    have := hf x
    refine pk_lt e x (fun z => absurd z (by omega)) (fun _ => ?_)
    refine br_f (by decide) ⟨pk_in (i * 61 + x) 610 (by omega) (rl_ix i x), ?_⟩
    refine pk_eq (f x) v (fun _ => ?_) (fun z => absurd h1 z) eU
    refine nm_r (nI_1 x) ?_
    exact pk_lt e (x + 1) (fun _ => hE) (fun _ => br_t (nI_pos' (by omega)) hE)
  | succ t ih =>
    intro x hx
    have eU : U (nI i * 61 + nI x).toNatClampNeg = nI (f x) := by rw [rl_ix, nI_clamp (by omega)]; exact hU x (by omega)
    have := hf x
    refine pk_lt e x (fun z => absurd z (by omega)) (fun _ => ?_)
    refine br_f (by decide) ⟨pk_in (i * 61 + x) 610 (by omega) (rl_ix i x), ?_⟩
    refine pk_eq (f x) v (fun z => absurd z (h2 x (by omega))) (fun _ => ?_) eU
    refine nm_r (nI_1 x) ?_
    exact ih (x + 1) (by omega)
theorem rl_yLeft (hk : rl_ok L c W S G) {post : Int32 → SY → Prop} {j : Nat} (hU : ∀ i, i < c → ∀ x, x < 61 → U (i * 61 + x) = nI (rl_U (rl_o L W S G) W i x)) (hv : rl_lm (rl_U (rl_o L W S G) W (c - 1)) 61 < 1000000)
    (h : ∀ H', post (nI (rl_ed (rl_o L W S G) W c (c - 1 - j))) (rl_y L c W S G U D H')) : ∀ t a H1, a = j + t → a < c → wY_leftmost_50 post (nI j) (nI L) (nI c) (t + 2) (nI (rl_du (rl_o L W S G) W c (c - 1 - a))) (nI (rl_la (rl_o L W S G) W c (c - 1 - a))) (nI a) (rl_A W) (rl_A S) (rl_A G) U D H1 := by
  have hc := hk.2.2.1
  intro t
  induction t with
  | zero =>
    intro a H1 ha hac
    have ea : a = j := by omega
    subst ea
    have eca : c - 1 - (c - 1 - a) = a := by omega
    obtain ⟨p1, p2⟩ := rl_path hv (c - 1 - a) (by omega)
    obtain ⟨q1, q2, q3⟩ := rl_ed_ok (rl_o L W S G) W c (c - 1 - a)
    rw [eca] at q2 q3
    refine br_f (nI_nlt (Nat.le_refl _) (by omega)) ⟨rl_ed (rl_o L W S G) W c (c - 1 - a) + 2, ?_⟩
    refine rl_yFind (f := rl_U (rl_o L W S G) W a) (r := rl_ed (rl_o L W S G) W c (c - 1 - a)) (by omega) p1 q1 (hU a hac) (fun x => rl_U_le _ _ _ _) (by omega) q2 q3 ?_ _ 0 (by omega)
    have hva : vp_in (nI a) 10 := vp_in_nI (by omega) (by decide)
    have fin : ∀ (x2 x3 x4 : Int32), x4 = rl_dn a → wY_leftmost_50 post (nI a) (nI L) (nI c) (0 + 1) x2 x3 x4 (rl_A W) (rl_A S) (rl_A G) U D (upd H1 a (nI (rl_ed (rl_o L W S G) W c (c - 1 - a)))) := by
      intro x2 x3 x4 e4
      subst e4
      refine br_t (rl_dn_lt (Nat.le_refl _) (by omega)) ⟨hva, ?_⟩
      have e5 : upd H1 a (nI (rl_ed (rl_o L W S G) W c (c - 1 - a))) (nI a).toNatClampNeg = nI (rl_ed (rl_o L W S G) W c (c - 1 - a)) := by rw [nI_clamp (by omega)]; exact pk_us
      rw [e5]
      exact h _
    refine ⟨hva, ?_⟩
    refine nm_r (rl_ut (by omega)) ?_
    refine rl_yOwn hk (by omega) (by omega) ?_
    refine nm_e ?_
    refine pk_le a 0 (fun z => ?_) (fun z => ⟨pk_in (a - 1) 10 (by omega) (by rw [← pk_sub (by omega)]; rfl), ?_⟩)
    · exact nm_e (fin _ _ _ rfl)
    · exact nm_e (nm_e (fin _ _ _ rfl))
  | succ t ih =>
    intro a H1 ha hac
    obtain ⟨b, rfl⟩ : ∃ b, a = b + 1 := ⟨j + t, by omega⟩
    have eca : c - 1 - (c - 1 - (b + 1)) = b + 1 := by omega
    have ed : c - 1 - (b + 1) + 1 = c - 1 - b := by omega
    have eb : c - 1 - (c - 1 - b) = b := by omega
    obtain ⟨p1, p2⟩ := rl_path hv (c - 1 - (b + 1)) (by omega)
    obtain ⟨q1, q2, q3⟩ := rl_ed_ok (rl_o L W S G) W c (c - 1 - (b + 1))
    obtain ⟨r1, r2⟩ := rl_du_s (o := rl_o L W S G) (W := W) (c := c) (d := c - 1 - (b + 1)) (by omega) p2
    have el := rl_la_s (rl_o L W S G) W c (c - 1 - (b + 1))
    rw [eca] at q2 q3 r2
    rw [ed] at r1 r2 el
    rw [eb] at r1 el
    refine br_f (nI_nlt (by omega) (by omega)) ⟨rl_ed (rl_o L W S G) W c (c - 1 - (b + 1)) + 2, ?_⟩
    refine rl_yFind (f := rl_U (rl_o L W S G) W (b + 1)) (r := rl_ed (rl_o L W S G) W c (c - 1 - (b + 1))) (by omega) p1 q1 (hU (b + 1) hac) (fun x => rl_U_le _ _ _ _) (by omega) q2 q3 ?_ _ 0 (by omega)
    refine ⟨vp_in_nI (by omega) (by decide), ?_⟩
    refine nm_r (rl_ut (by omega)) ?_
    refine rl_yOwn hk (by omega) (by omega) ?_
    refine nm_r (e' := nI (rl_du (rl_o L W S G) W c (c - 1 - b))) (by rw [pk_sub (by omega)]; exact congrArg nI (by omega)) ?_
    have ej : nI (b + 1) - 1 = nI b := nI_pred b
    refine pk_le (b + 1) 0 (fun z => absurd z (by omega)) (fun _ => ⟨pk_in b 10 (by omega) ej, ?_⟩)
    refine nm_r (e' := nI (rl_la (rl_o L W S G) W c (c - 1 - b))) (by rw [ej, rl_At W (by omega), pk_sub r1, el]) ?_
    refine nm_r (pk_m1 b) ?_
    exact ih b _ (by omega) (by omega)
end
end
section
/-! the calls -/
section
variable {L c : Nat} {W S G : Nat → Nat} {T C U D H : Nat → Int32}
theorem rl_r3 (v : Int32) (a b : Nat) (ha : a < 2 ^ 31) (hb : b < 2 ^ 31) : v < nI a ∨ (¬ v < nI a ∧ ¬ v ≤ nI b) ∨ ∃ m, a ≤ m ∧ m ≤ b ∧ v = nI m := by
  by_cases h1 : v < nI a
  · exact Or.inl h1
  · by_cases h2 : v ≤ nI b
    · obtain ⟨m, g1, g2, rfl⟩ := rl_lt_0 (Int32.not_lt.mp h1) ha
      exact Or.inr (Or.inr ⟨m, g1, (nI_leI g2 hb).mp h2, rfl⟩)
    · exact Or.inr (Or.inl ⟨h1, h2⟩)
theorem rl_xWishY {post : Int32 → Prop} {v : Int32} (h : v < nI 0 ∨ (¬ v < nI 0 ∧ ¬ v ≤ nI 60)) (hp : post 1) : wpX_isBadWish post (rl_x L c W S G T C) v := by
  rcases h with h | ⟨h, h'⟩
  · exact br_t h hp
  · exact br_f h (br_f h' hp)
theorem rl_xWishN {post : Int32 → Prop} {m : Nat} (hm : m ≤ 60) (hp : post 0) : wpX_isBadWish post (rl_x L c W S G T C) (nI m) :=
  br_f (nI_pos (by omega)) (br_t (nI_le (b := 60) hm (by decide)) hp)
theorem rl_xWeiY {post : Int32 → Prop} {v : Int32} (h : v < nI 1 ∨ (¬ v < nI 1 ∧ ¬ v ≤ nI 5)) (hp : post 1) : wpX_isBadWeight post (rl_x L c W S G T C) v := by
  rcases h with h | ⟨h, h'⟩
  · exact br_t h hp
  · exact br_f h (br_f h' hp)
theorem rl_xWeiN {post : Int32 → Prop} {m : Nat} (h1 : 1 ≤ m) (hm : m ≤ 5) (hp : post 0) : wpX_isBadWeight post (rl_x L c W S G T C) (nI m) :=
  br_f (nI_nlt (b := 1) h1 (by omega)) (br_t (nI_le (b := 5) hm (by decide)) hp)
theorem rl_yWishY {post : Int32 → Prop} {v : Int32} (h : v < nI 0 ∨ (¬ v < nI 0 ∧ ¬ v ≤ nI 60)) (hp : post 1) : wpY_badWish post (rl_y L c W S G U D H) v := by
  rcases h with h | ⟨h, h'⟩
  · exact br_t h hp
  · exact br_f h (br_f h' hp)
theorem rl_yWishN {post : Int32 → Prop} {m : Nat} (hm : m ≤ 60) (hp : post 0) : wpY_badWish post (rl_y L c W S G U D H) (nI m) :=
  br_f (nI_pos (by omega)) (br_t (nI_le (b := 60) hm (by decide)) hp)
theorem rl_yWeiY {post : Int32 → Prop} {v : Int32} (h : v < nI 1 ∨ (¬ v < nI 1 ∧ ¬ v ≤ nI 5)) (hp : post 1) : wpY_badWeight post (rl_y L c W S G U D H) v := by
  rcases h with h | ⟨h, h'⟩
  · exact br_t h hp
  · exact br_f h (br_f h' hp)
theorem rl_yWeiN {post : Int32 → Prop} {m : Nat} (h1 : 1 ≤ m) (hm : m ≤ 5) (hp : post 0) : wpY_badWeight post (rl_y L c W S G U D H) (nI m) :=
  br_f (nI_nlt (b := 1) h1 (by omega)) (br_t (nI_le (b := 5) hm (by decide)) hp)
def rl_sw (W : Nat → Nat) (j : Nat) : Nat → Nat := rl_pt (rl_pt W j (W (j + 1))) (j + 1) (W j)
theorem rl_sw_le {m j : Nat} (h : ∀ j, W j ≤ m) : ∀ i, rl_sw W j i ≤ m := rl_pt_le (rl_pt_le h (h _)) (h _)
theorem rl_sA (W : Nat → Nat) {j : Nat} (h : j < 10) : upd (rl_A W) (nI j).toNatClampNeg (rl_A W (nI j + 1).toNatClampNeg) = rl_A (rl_pt W j (W (j + 1))) := by rw [nI_1, rl_At W (by omega), rl_upd W _ (by omega)]
theorem rl_sB (W : Nat → Nat) {j : Nat} (h : j < 10) : upd (rl_A (rl_pt W j (W (j + 1)))) (nI j + 1).toNatClampNeg (nI (W j)) = rl_A (rl_sw W j) := by rw [nI_1, rl_upd _ _ (by omega)]; rfl
theorem rl_xSw_widths {post : SX → Prop} {j : Nat} (hj : j + 1 < 10) (h : post (rl_x L c (rl_sw W j) S G T C)) : wpX_swapWithNext__widths post (rl_x L c W S G T C) (nI j) := by
  have hv : vp_in (nI j) 10 := vp_in_nI (by omega) (by decide)
  have hv1 : vp_in (nI j + 1) 10 := pk_in (j + 1) 10 hj (nI_1 j)
  exact ⟨hv, nm_r (rl_At W (by omega)) ⟨hv1, hv, nm_r (rl_sA W (by omega)) ⟨hv1, nm_r (rl_sB W (by omega)) h⟩⟩⟩
theorem rl_xSw_wishes {post : SX → Prop} {j : Nat} (hj : j + 1 < 10) (h : post (rl_x L c W (rl_sw S j) G T C)) : wpX_swapWithNext__wishes post (rl_x L c W S G T C) (nI j) := by
  have hv : vp_in (nI j) 10 := vp_in_nI (by omega) (by decide)
  have hv1 : vp_in (nI j + 1) 10 := pk_in (j + 1) 10 hj (nI_1 j)
  exact ⟨hv, nm_r (rl_At S (by omega)) ⟨hv1, hv, nm_r (rl_sA S (by omega)) ⟨hv1, nm_r (rl_sB S (by omega)) h⟩⟩⟩
theorem rl_xSw_weights {post : SX → Prop} {j : Nat} (hj : j + 1 < 10) (h : post (rl_x L c W S (rl_sw G j) T C)) : wpX_swapWithNext__weights post (rl_x L c W S G T C) (nI j) := by
  have hv : vp_in (nI j) 10 := vp_in_nI (by omega) (by decide)
  have hv1 : vp_in (nI j + 1) 10 := pk_in (j + 1) 10 hj (nI_1 j)
  exact ⟨hv, nm_r (rl_At G (by omega)) ⟨hv1, hv, nm_r (rl_sA G (by omega)) ⟨hv1, nm_r (rl_sB G (by omega)) h⟩⟩⟩
theorem rl_exl {j c : Nat} (h : nI j < nI c - 1) (hj : j < 2 ^ 31) (hc : c ≤ 10) : j + 1 < c := by
  cases c with
  | zero =>
    rw [rl_dn_m] at h
    exact absurd (Int32.lt_of_lt_of_le (Int32.lt_trans h rl_dn_0) (nI_pos' hj)) Int32.lt_irrefl
  | succ c =>
    rw [nI_pred] at h
    have := (nI_ltI hj (by omega)).mp h
    omega
theorem rl_np (hc : c ≤ 10) {i : Nat} (hi : i < c) (e m : Nat) : rl_lm (rl_U (rl_q L W S G 10 e) W i) m = rl_lm (rl_U (rl_o L W S G) W i) m :=
  rl_lm_cg m (fun y _ => rl_U_cg i (fun j hj x => rl_q_n (by omega) x) y)
theorem rl_m1n : ∀ i, i < 10 → (nI i = -1 ↔ i = 10) := by decide
theorem rl_xCost (hk : rl_ok L c W S G) {post : Int32 → SX → Prop} {n : Nat} (hn : n ≤ c)
    (h0 : n = 0 → post 0 (rl_x L c W S G T C))
    (h : ∀ T' : Nat → Int32, 0 < n → (∀ i, i < n → ∀ x, x < 61 → T' (i * 61 + x) = nI (rl_lm (rl_U (rl_o L W S G) W i) (x + 1))) → post (rl_an (rl_lm (rl_U (rl_o L W S G) W (n - 1)) 61)) (rl_x L c W S G T' C)) :
    wpX_leastCost post (rl_x L c W S G T C) (nI n) (-1) 0 := by
  have hc := hk.2.2.1
  refine rl_xLeast hk (p := 10) (e := 0) hn rl_m1n (by omega) (fun z => absurd z (by omega)) h0 (fun T' hp hT => ?_)
  have := h T' hp (fun i hi x hx => by rw [hT i hi x hx, rl_np hc (by omega)])
  rw [← rl_np (L := L) (S := S) (G := G) hc (show n - 1 < c by omega) 0 61] at this
  exact this
theorem rl_pr {n : Nat} (h : 0 < n) : nI n - 1 = nI (n - 1) := by
  obtain ⟨m, rfl⟩ : ∃ m, n = m + 1 := ⟨n - 1, by omega⟩
  rw [nI_pred, Nat.add_sub_cancel]
theorem rl_yCost (hk : rl_ok L c W S G) {post : Int32 → SY → Prop} {n : Nat} (hn : n ≤ c)
    (h0 : n = 0 → post 0 (rl_y L c W S G U D H))
    (h : ∀ U' : Nat → Int32, 0 < n → post (rl_an (rl_lm (rl_U (rl_o L W S G) W (n - 1)) 61)) (rl_y L c W S G U' D H)) :
    wpY_costOf post (rl_y L c W S G U D H) (nI n) := by
  have hc := hk.2.2.1
  refine br_f (nI_pos (by omega)) (br_t (nI_le hn (by omega)) ?_)
  refine pk_eq n 0 (fun z => h0 z) (fun z => ?_)
  refine rl_yUp hk hn (fun U' hU => ?_)
  refine rl_yLeastUp (f := rl_U (rl_o L W S G) W (n - 1)) (rl_pr (by omega)) (by omega) (hU (n - 1) (by omega)) (fun x => rl_U_le _ _ _ _) ?_
  have h1 := h U' (by omega)
  have hle := rl_lm_le (rl_U (rl_o L W S G) W (n - 1)) 61
  refine pk_eq (rl_lm (rl_U (rl_o L W S G) W (n - 1)) 61) 1000000 (fun z => ?_) (fun z => ?_)
  · rw [z, rl_an_n] at h1; exact h1
  · rw [rl_an_y z] at h1; exact h1
theorem rl_yAt (hk : rl_ok L c W S G) {post : Int32 → SY → Prop} {j x : Nat} (hj : j < c) (hx : x ≤ 60)
    (h : ∀ (U' D' : Nat → Int32) (r : Int32), (min (rl_U (rl_o L W S G) W j x + rl_D (rl_o L W S G) W c (c - 1 - j) x) 1000000 = 1000000 → r = -6) → (min (rl_U (rl_o L W S G) W j x + rl_D (rl_o L W S G) W c (c - 1 - j) x) 1000000 ≠ 1000000 → r = nI (min (rl_U (rl_o L W S G) W j x + rl_D (rl_o L W S G) W c (c - 1 - j) x) 1000000) - nI (rl_o L W S G j x)) → post r (rl_y L c W S G U' D' H)) :
    wpY_costAt post (rl_y L c W S G U D H) (nI j) (nI x) := by
  have hc := hk.2.2.1
  unfold wpY_costAt
  refine rl_yBadN hj hc ?_
  refine br_t rfl ?_
  refine br_f (nI_pos (by omega)) (br_t (nI_le (b := 60) hx (by decide)) ?_)
  refine rl_yUp hk (Nat.le_refl c) (fun U' hU => ?_)
  refine rl_yDown hk (fun D' hD => ?_)
  have hv : vp_in (nI j * 61 + nI x) 610 := pk_in (j * 61 + x) 610 (by omega) (rl_ix j x)
  have eU : U' (nI j * 61 + nI x).toNatClampNeg = nI (rl_U (rl_o L W S G) W j x) := by rw [rl_ix, nI_clamp (by omega)]; exact hU j hj x (by omega)
  have eD : D' (nI j * 61 + nI x).toNatClampNeg = nI (rl_D (rl_o L W S G) W c (c - 1 - j) x) := by
    rw [rl_ix, nI_clamp (by omega)]
    have := hD (c - 1 - j) (by omega) x (by omega)
    rw [show c - 1 - (c - 1 - j) = j by omega] at this
    exact this
  have l1 := rl_U_le (rl_o L W S G) W j x
  have l2 := rl_D_le (rl_o L W S G) W c (c - 1 - j) x
  refine ⟨hv, hv, ?_⟩
  refine rl_ySum eU eD (by omega) ?_
  refine pk_eq (min (rl_U (rl_o L W S G) W j x + rl_D (rl_o L W S G) W c (c - 1 - j) x) 1000000) 1000000 (fun z => ?_) (fun z => ?_)
  · exact h U' D' _ (fun _ => rfl) (fun z1 => absurd z z1)
  · refine rl_yOwn hk (by omega) (by omega) ?_
    exact h U' D' _ (fun z1 => absurd z1 z) (fun _ => rfl)
end
end
section
theorem i_up {k : Nat} {u : SX} {v : SY} (h : i_Rel k u v) : i_Rel (k + 4) u v := h
theorem rl_new {L k : Nat} (h : 10 ≤ L) (h2 : L ≤ 60) : i_Rel k (nI L, 0, (fun _ => 0), (fun _ => 0), (fun _ => 0), (fun _ => 0), (fun _ => 0)) (nI L, 0, (fun _ => 0), (fun _ => 0), (fun _ => 0), (fun _ => 0), (fun _ => 0), (fun _ => 0)) :=
  ⟨L, 0, fun _ => 0, fun _ => 0, fun _ => 0, fun _ => 0, fun _ => 0, fun _ => 0, fun _ => 0, fun _ => 0, rfl, rfl, h, h2, by omega, fun _ => Nat.zero_le _, fun _ => Nat.zero_le _, fun _ => Nat.zero_le _⟩
theorem i_vc0 (k0 : Int32) : wpX_init (fun u => wpY_init (fun v => i_Rel 1 u v) k0) k0 := by
  by_cases h : (10 : Int32) ≤ k0
  · obtain ⟨m, h1, h2, rfl⟩ := rl_lt_0 (n := 10) h (by decide)
    refine br_t h ?_
    refine pk_le m 60 (fun z => ?_) (fun z => ?_)
    · exact br_t h (pk_le m 60 (fun _ => rl_new h1 z) (fun z1 => absurd z1 (by omega)))
    · exact br_t h (pk_le m 60 (fun z1 => absurd z1 (by omega)) (fun _ => rl_new (L := 60) (by decide) (by decide)))
  · exact br_f h (br_f h (br_t (by decide) (rl_new (L := 10) (by decide) (by decide))))
theorem i_vc_append {k : Nat} {u : SX} {v : SY} (I : i_Rel k u v) (hk : k + 4 ≤ 2049) (v1 : Int32) (v2 : Int32) (v3 : Int32) : wpX_append (fun r u' => wpY_append (fun r' v' => r' = r ∧ i_Rel (k + 4) u' v') v v1 v2 v3) u v1 v2 v3 := by
  obtain ⟨L, c, W, S, G, T, C, U, D, H, rfl, rfl, ok⟩ := I
  have hc := ok.2.2.1
  have hL := ok.2.1
  have rel : i_Rel (k + 4) (rl_x L c W S G T C) (rl_y L c W S G U D H) := ⟨L, c, W, S, G, T, C, U, D, H, rfl, rfl, ok⟩
  unfold wpX_append wpY_append
  dsimp only
  rcases rl_r3 v1 1 5 (by decide) (by decide) with h | ⟨h, h'⟩ | ⟨w, w1, w5, rfl⟩
  · exact br_t h (br_t h ⟨rfl, rel⟩)
  · exact br_f h (br_f h' (br_f h (br_f h' ⟨rfl, rel⟩)))
  · have a1 : ¬ nI w < 1 := nI_nlt (b := 1) w1 (by omega)
    have a2 : nI w ≤ 5 := nI_le (b := 5) w5 (by decide)
    refine br_f a1 (br_t a2 ?_)
    have hs := rl_r3 v2 0 60 (by decide) (by decide)
    rw [← or_assoc] at hs
    rcases hs with h | ⟨s, _, s60, rfl⟩
    · refine rl_xWishY h ?_
      refine br_f (by decide) ?_
      refine br_f a1 (br_t a2 ?_)
      refine rl_yWishY h ?_
      exact br_f (by decide) ⟨rfl, rel⟩
    · refine rl_xWishN s60 ?_
      refine br_t rfl ?_
      have hg := rl_r3 v3 1 5 (by decide) (by decide)
      rw [← or_assoc] at hg
      rcases hg with h | ⟨g, g1, g5, rfl⟩
      · refine rl_xWeiY h ?_
        refine br_f (by decide) ?_
        refine br_f a1 (br_t a2 ?_)
        refine rl_yWishN s60 ?_
        refine br_t rfl ?_
        refine rl_yWeiY h ?_
        exact br_f (by decide) ⟨rfl, rel⟩
      · refine rl_xWeiN g1 g5 ?_
        refine br_t rfl ?_
        refine pk_lt c 10 (fun z => ?_) (fun z => ?_)
        · have hv : vp_in (nI c) 10 := vp_in_nI z (by decide)
          refine ⟨hv, nm_r (rl_upd W w (by omega)) ⟨hv, nm_r (rl_upd S s (by omega)) ⟨hv, nm_r (rl_upd G g (by omega)) (nm_r (nI_1 c) ?_)⟩⟩⟩
          refine br_f a1 (br_t a2 ?_)
          refine rl_yWishN s60 ?_
          refine br_t rfl ?_
          refine rl_yWeiN g1 g5 ?_
          refine br_t rfl ?_
          refine pk_eq c 10 (fun z1 => absurd z1 (by omega)) (fun _ => ?_)
          refine ⟨hv, nm_r (rl_upd W w (by omega)) ⟨hv, nm_r (rl_upd S s (by omega)) ⟨hv, nm_r (rl_upd G g (by omega)) (nm_r (nI_1 c) ?_)⟩⟩⟩
          exact ⟨rfl, L, c + 1, rl_pt W c w, rl_pt S c s, rl_pt G c g, T, C, U, D, H, rfl, rfl, ok.1, hL, by omega, rl_pt_le ok.2.2.2.1 w5, rl_pt_le ok.2.2.2.2.1 s60, rl_pt_le ok.2.2.2.2.2 g5⟩
        · refine br_f a1 (br_t a2 ?_)
          refine rl_yWishN s60 ?_
          refine br_t rfl ?_
          refine rl_yWeiN g1 g5 ?_
          refine br_t rfl ?_
          exact pk_eq c 10 (fun _ => ⟨rfl, rel⟩) (fun z1 => absurd z1 (by omega))
theorem i_vc_move {k : Nat} {u : SX} {v : SY} (I : i_Rel k u v) (hk : k + 4 ≤ 2049) (v1 : Int32) (v2 : Int32) : wpX_move (fun r u' => wpY_move (fun r' v' => r' = r ∧ i_Rel (k + 4) u' v') v v1 v2) u v1 v2 := by
  obtain ⟨L, c, W, S, G, T, C, U, D, H, rfl, rfl, ok⟩ := I
  have hc := ok.2.2.1
  have hL := ok.2.1
  have rel : i_Rel (k + 4) (rl_x L c W S G T C) (rl_y L c W S G U D H) := ⟨L, c, W, S, G, T, C, U, D, H, rfl, rfl, ok⟩
  unfold wpX_move wpY_move
  dsimp only
  have hi := pk_ix v1 (n := c) (by omega)
  rw [← or_assoc] at hi
  rcases hi with h | ⟨j, hj, rfl⟩
  · refine rl_xBadY h ?_
    refine br_f (by decide) ?_
    refine rl_yBadY h ?_
    exact br_f (by decide) ⟨rfl, rel⟩
  · refine rl_xBadN hj hc ?_
    refine br_t rfl ?_
    have hs := rl_r3 v2 0 60 (by decide) (by decide)
    rw [← or_assoc] at hs
    rcases hs with h | ⟨s, s1, s60, rfl⟩
    · refine rl_xWishY h ?_
      refine br_f (by decide) ?_
      refine rl_yBadN hj hc ?_
      refine br_t rfl ?_
      refine rl_yWishY h ?_
      exact br_f (by decide) ⟨rfl, rel⟩
    · have hv : vp_in (nI j) 10 := vp_in_nI (by omega) (by decide)
      refine rl_xWishN s60 ?_
      refine br_t rfl ⟨hv, nm_r (rl_At S (by omega)) ⟨hv, nm_r (rl_upd S s (by omega)) ?_⟩⟩
      refine rl_yBadN hj hc ?_
      refine br_t rfl ?_
      refine rl_yWishN s60 ?_
      refine br_t rfl ⟨hv, nm_r (rl_At S (by omega)) ⟨hv, nm_r (rl_upd S s (by omega)) ?_⟩⟩
      exact ⟨rfl, L, c, W, rl_pt S j s, G, T, C, U, D, H, rfl, rfl, ok.1, hL, hc, ok.2.2.2.1, rl_pt_le ok.2.2.2.2.1 s60, ok.2.2.2.2.2⟩
theorem i_vc_reweigh {k : Nat} {u : SX} {v : SY} (I : i_Rel k u v) (hk : k + 4 ≤ 2049) (v1 : Int32) (v2 : Int32) : wpX_reweigh (fun r u' => wpY_reweigh (fun r' v' => r' = r ∧ i_Rel (k + 4) u' v') v v1 v2) u v1 v2 := by
  obtain ⟨L, c, W, S, G, T, C, U, D, H, rfl, rfl, ok⟩ := I
  have hc := ok.2.2.1
  have hL := ok.2.1
  have rel : i_Rel (k + 4) (rl_x L c W S G T C) (rl_y L c W S G U D H) := ⟨L, c, W, S, G, T, C, U, D, H, rfl, rfl, ok⟩
  unfold wpX_reweigh wpY_reweigh
  dsimp only
  have hi := pk_ix v1 (n := c) (by omega)
  rw [← or_assoc] at hi
  rcases hi with h | ⟨j, hj, rfl⟩
  · refine rl_xBadY h ?_
    refine br_f (by decide) ?_
    refine rl_yBadY h ?_
    exact br_f (by decide) ⟨rfl, rel⟩
  · refine rl_xBadN hj hc ?_
    refine br_t rfl ?_
    have hs := rl_r3 v2 1 5 (by decide) (by decide)
    rw [← or_assoc] at hs
    rcases hs with h | ⟨s, s1, s60, rfl⟩
    · refine rl_xWeiY h ?_
      refine br_f (by decide) ?_
      refine rl_yBadN hj hc ?_
      refine br_t rfl ?_
      refine rl_yWeiY h ?_
      exact br_f (by decide) ⟨rfl, rel⟩
    · have hv : vp_in (nI j) 10 := vp_in_nI (by omega) (by decide)
      refine rl_xWeiN s1 s60 ?_
      refine br_t rfl ⟨hv, nm_r (rl_At G (by omega)) ⟨hv, nm_r (rl_upd G s (by omega)) ?_⟩⟩
      refine rl_yBadN hj hc ?_
      refine br_t rfl ?_
      refine rl_yWeiN s1 s60 ?_
      refine br_t rfl ⟨hv, nm_r (rl_At G (by omega)) ⟨hv, nm_r (rl_upd G s (by omega)) ?_⟩⟩
      exact ⟨rfl, L, c, W, S, rl_pt G j s, T, C, U, D, H, rfl, rfl, ok.1, hL, hc, ok.2.2.2.1, ok.2.2.2.2.1, rl_pt_le ok.2.2.2.2.2 s60⟩
theorem i_vc_exchange {k : Nat} {u : SX} {v : SY} (I : i_Rel k u v) (hk : k + 4 ≤ 2049) (v1 : Int32) : wpX_exchange (fun r u' => wpY_exchange (fun r' v' => r' = r ∧ i_Rel (k + 4) u' v') v v1) u v1 := by
  obtain ⟨L, c, W, S, G, T, C, U, D, H, rfl, rfl, ok⟩ := I
  have hc := ok.2.2.1
  have hL := ok.2.1
  have rel : i_Rel (k + 4) (rl_x L c W S G T C) (rl_y L c W S G U D H) := ⟨L, c, W, S, G, T, C, U, D, H, rfl, rfl, ok⟩
  unfold wpX_exchange wpY_exchange
  dsimp only
  by_cases h0 : v1 < 0
  · exact br_t h0 (br_t h0 ⟨rfl, rel⟩)
  · by_cases h1 : v1 < nI c - 1
    · obtain ⟨j, hj, rfl⟩ := nI_of h0
      have hjc := rl_exl h1 hj hc
      have hv : vp_in (nI j) 10 := vp_in_nI (by omega) (by decide)
      have hv1 : vp_in (nI j + 1) 10 := pk_in (j + 1) 10 (by omega) (nI_1 j)
      refine br_f h0 (br_t h1 ?_)
      refine rl_xSw_widths (by omega) ?_
      refine rl_xSw_wishes (by omega) ?_
      refine rl_xSw_weights (by omega) ?_
      refine br_f h0 (br_t h1 ?_)
      refine ⟨hv, nm_r (rl_At W (by omega)) ⟨hv, nm_r (rl_At S (by omega)) ⟨hv, nm_r (rl_At G (by omega)) ?_⟩⟩⟩
      refine ⟨hv1, hv, nm_r (rl_sA W (by omega)) ⟨hv1, hv, nm_r (rl_sA S (by omega)) ⟨hv1, hv, nm_r (rl_sA G (by omega)) ?_⟩⟩⟩
      refine ⟨hv1, nm_r (rl_sB W (by omega)) ⟨hv1, nm_r (rl_sB S (by omega)) ⟨hv1, nm_r (rl_sB G (by omega)) ?_⟩⟩⟩
      exact ⟨rfl, L, c, rl_sw W j, rl_sw S j, rl_sw G j, T, C, U, D, H, rfl, rfl, ok.1, hL, hc, rl_sw_le ok.2.2.2.1, rl_sw_le ok.2.2.2.2.1, rl_sw_le ok.2.2.2.2.2⟩
    · exact br_f h0 (br_f h1 (br_f h0 (br_f h1 ⟨rfl, rel⟩)))
theorem i_vc_drop {k : Nat} {u : SX} {v : SY} (I : i_Rel k u v) (hk : k + 4 ≤ 2049) : wpX_drop (fun r u' => wpY_drop (fun r' v' => r' = r ∧ i_Rel (k + 4) u' v') v) u := by
  obtain ⟨L, c, W, S, G, T, C, U, D, H, rfl, rfl, ok⟩ := I
  have hc := ok.2.2.1
  have hL := ok.2.1
  refine pk_eq c 0 (fun z => ?_) (fun z => ?_)
  · exact pk_eq c 0 (fun _ => ⟨rfl, ⟨L, c, W, S, G, T, C, U, D, H, rfl, rfl, ok⟩⟩) (fun z1 => absurd z z1)
  · obtain ⟨b, rfl⟩ : ∃ b, c = b + 1 := ⟨c - 1, by omega⟩
    refine nm_r (nI_pred b) ?_
    refine pk_eq (b + 1) 0 (fun z1 => absurd z1 z) (fun _ => ?_)
    refine nm_r (nI_pred b) ?_
    exact ⟨rfl, L, b, W, S, G, T, C, U, D, H, rfl, rfl, ok.1, hL, by omega, ok.2.2.2⟩
theorem i_vc_cost {k : Nat} {u : SX} {v : SY} (I : i_Rel k u v) (hk : k + 4 ≤ 2049) : wpX_cost (fun r u' => wpY_cost (fun r' v' => r' = r ∧ i_Rel (k + 4) u' v') v) u := by
  obtain ⟨L, c, W, S, G, T, C, U, D, H, rfl, rfl, ok⟩ := I
  have hc := ok.2.2.1
  have hL := ok.2.1
  unfold wpX_cost wpY_cost
  refine rl_xCost ok (Nat.le_refl c) (fun z => ?_) (fun T' hp hT => ?_)
  · refine rl_yCost ok (Nat.le_refl c) (fun _ => ?_) (fun U' hp => absurd hp (by omega))
    exact ⟨rfl, ⟨L, c, W, S, G, T, C, U, D, H, rfl, rfl, ok⟩⟩
  · refine rl_yCost ok (Nat.le_refl c) (fun z => absurd z (by omega)) (fun U' _ => ?_)
    exact ⟨rfl, L, c, W, S, G, T', C, U', D, H, rfl, rfl, ok⟩
theorem i_vc_costOf {k : Nat} {u : SX} {v : SY} (I : i_Rel k u v) (hk : k + 4 ≤ 2049) (v1 : Int32) : wpX_costOf (fun r u' => wpY_costOf (fun r' v' => r' = r ∧ i_Rel (k + 4) u' v') v v1) u v1 := by
  obtain ⟨L, c, W, S, G, T, C, U, D, H, rfl, rfl, ok⟩ := I
  have hc := ok.2.2.1
  have hL := ok.2.1
  have rel : i_Rel (k + 4) (rl_x L c W S G T C) (rl_y L c W S G U D H) := ⟨L, c, W, S, G, T, C, U, D, H, rfl, rfl, ok⟩
  by_cases h0 : v1 < 0
  · exact br_t h0 (br_t h0 ⟨rfl, rel⟩)
  · obtain ⟨m, hm, rfl⟩ := nI_of h0
    refine br_f h0 ?_
    refine pk_le m c (fun z => ?_) (fun z => ?_)
    · refine rl_xCost ok z (fun z0 => ?_) (fun T' hp hT => ?_)
      · refine rl_yCost ok z (fun _ => ?_) (fun U' hp => absurd hp (by omega))
        exact ⟨rfl, rel⟩
      · refine rl_yCost ok z (fun z0 => absurd z0 (by omega)) (fun U' _ => ?_)
        exact ⟨rfl, L, c, W, S, G, T', C, U', D, H, rfl, rfl, ok⟩
    · exact br_f h0 (pk_le m c (fun z1 => absurd z1 (by omega)) (fun _ => ⟨rfl, rel⟩))
theorem i_vc_leftmost {k : Nat} {u : SX} {v : SY} (I : i_Rel k u v) (hk : k + 4 ≤ 2049) (v1 : Int32) : wpX_leftmost (fun r u' => wpY_leftmost (fun r' v' => r' = r ∧ i_Rel (k + 4) u' v') v v1) u v1 := by
  obtain ⟨L, c, W, S, G, T, C, U, D, H, rfl, rfl, ok⟩ := I
  have hc := ok.2.2.1
  have hL := ok.2.1
  have rel : i_Rel (k + 4) (rl_x L c W S G T C) (rl_y L c W S G U D H) := ⟨L, c, W, S, G, T, C, U, D, H, rfl, rfl, ok⟩
  unfold wpX_leftmost
  dsimp only
  have hi := pk_ix v1 (n := c) (by omega)
  rw [← or_assoc] at hi
  rcases hi with h | ⟨j, hj, rfl⟩
  · refine rl_xBadY h ?_
    refine br_f (by decide) ?_
    unfold wpY_leftmost
    dsimp only
    refine rl_yBadY h ?_
    exact br_f (by decide) ⟨rfl, rel⟩
  · refine rl_xBadN hj hc ?_
    refine br_t rfl ?_
    have ec := rl_pr (n := c) (by omega)
    refine rl_xCost ok (Nat.le_refl c) (fun z => absurd z (by omega)) (fun T' hp hT => ?_)
    have hle := rl_lm_le (rl_U (rl_o L W S G) W (c - 1)) 61
    have rel' : ∀ U' H', i_Rel (k + 4) (rl_x L c W S G T' C) (rl_y L c W S G U' D H') := fun U' H' => ⟨L, c, W, S, G, T', C, U', D, H', rfl, rfl, ok⟩
    by_cases hv : rl_lm (rl_U (rl_o L W S G) W (c - 1)) 61 = 1000000
    · refine br_t (by rw [hv]; exact rl_an_n) ?_
      unfold wpY_leftmost
      dsimp only
      refine rl_yBadN hj hc ?_
      refine br_t rfl ?_
      refine rl_yUp ok (Nat.le_refl c) (fun U' hU => ?_)
      refine rl_yLeastUp (f := rl_U (rl_o L W S G) W (c - 1)) ec (by omega) (hU (c - 1) (by omega)) (fun x => rl_U_le _ _ _ _) ?_
      exact br_t (by rw [hv]; rfl) ⟨rfl, rel' U' H⟩
    · have hv' : rl_lm (rl_U (rl_o L W S G) W (c - 1)) 61 < 1000000 := by omega
      have e0 : c - 1 - (c - 1) = 0 := by omega
      refine br_f (by rw [rl_an_y hv]; exact rl_nn (by omega)) ?_
      refine rl_xEdgeM (f := rl_U (rl_o L W S G) W (c - 1)) ec (by omega) (hT (c - 1) (by omega)) 60 rfl (by omega) ?_
      have e2 : nI c - 2 = rl_dn (c - 1) := by
        obtain ⟨b, rfl⟩ : ∃ b, c = b + 1 := ⟨c - 1, by omega⟩
        exact rl_dn_2 b
      refine nm_r e2 ?_
      refine ⟨c - 1 - j + 1, ?_⟩
      have hY0 : wpY_leftmost (fun r' v' => r' = nI (rl_ed (rl_o L W S G) W c (c - 1 - j)) ∧ i_Rel (k + 4) (rl_x L c W S G T' C) v') (rl_y L c W S G U D H) (nI j) := by
        unfold wpY_leftmost
        dsimp only
        refine rl_yBadN hj hc ?_
        refine br_t rfl ?_
        refine rl_yUp ok (Nat.le_refl c) (fun U' hU => ?_)
        refine rl_yLeastUp (f := rl_U (rl_o L W S G) W (c - 1)) ec (by omega) (hU (c - 1) (by omega)) (fun x => rl_U_le _ _ _ _) ?_
        refine br_f (fun z => hv ((nI_eq (b := 1000000) (by omega) (by decide)).mp z)) ?_
        refine nm_r ec ?_
        refine ⟨c - 1 - j + 2, ?_⟩
        have hY := rl_yLeft (D := D) (j := j) ok hU hv' (post := fun r' v' => r' = nI (rl_ed (rl_o L W S G) W c (c - 1 - j)) ∧ i_Rel (k + 4) (rl_x L c W S G T' C) v') (fun H' => ⟨rfl, rel' U' H'⟩) (c - 1 - j) (c - 1) H (by omega) (by omega)
        rw [e0] at hY
        exact hY
      have hX := rl_xLeft (C := C) (j := j) ok hT hv' (post := fun r u' => wpY_leftmost (fun r' v' => r' = r ∧ i_Rel (k + 4) u' v') (rl_y L c W S G U D H) (nI j)) hY0 (c - 1 - j) (c - 1) (by omega) (by omega)
      rw [e0] at hX
      exact hX
theorem i_vc_costAt {k : Nat} {u : SX} {v : SY} (I : i_Rel k u v) (hk : k + 4 ≤ 2049) (v1 : Int32) (v2 : Int32) : wpX_costAt (fun r u' => wpY_costAt (fun r' v' => r' = r ∧ i_Rel (k + 4) u' v') v v1 v2) u v1 v2 := by
  obtain ⟨L, c, W, S, G, T, C, U, D, H, rfl, rfl, ok⟩ := I
  have hc := ok.2.2.1
  have hL := ok.2.1
  have rel : i_Rel (k + 4) (rl_x L c W S G T C) (rl_y L c W S G U D H) := ⟨L, c, W, S, G, T, C, U, D, H, rfl, rfl, ok⟩
  unfold wpX_costAt
  dsimp only
  have hi := pk_ix v1 (n := c) (by omega)
  rw [← or_assoc] at hi
  rcases hi with h | ⟨j, hj, rfl⟩
  · refine rl_xBadY h ?_
    refine br_f (by decide) ?_
    unfold wpY_costAt
    dsimp only
    refine rl_yBadY h ?_
    exact br_f (by decide) ⟨rfl, rel⟩
  · refine rl_xBadN hj hc ?_
    refine br_t rfl ?_
    have hv : vp_in (nI j) 10 := vp_in_nI (by omega) (by decide)
    have hw := ok.2.2.2.1 j
    have hL1 := ok.1
    by_cases h0 : v2 < 0
    · refine br_t h0 ?_
      unfold wpY_costAt
      dsimp only
      refine rl_yBadN hj hc ?_
      refine br_t rfl ?_
      exact br_t h0 ⟨rfl, rel⟩
    · obtain ⟨x, hx, rfl⟩ := nI_of h0
      have eL : nI L - rl_A W (nI j).toNatClampNeg = nI (L - W j) := by rw [rl_At W (by omega), pk_sub (by omega)]
      refine br_f h0 ⟨hv, ?_⟩
      refine pk_le x (L - W j) (fun z => ?_) (fun z => ?_) rfl eL
      · have hp := rl_pin (o := rl_o L W S G) (o' := rl_q L W S G j x) (W := W) (c := c) (p := j) (e := x) (rl_o_b ok) hj hc (by omega) (by rw [rl_o_y (by omega)]; exact rl_w_b ok (by omega)) (fun i hi y => rl_q_n hi y) rl_q_e (fun y hy => rl_q_o hy)
        refine rl_xLeast ok (p := j) (e := x) (Nat.le_refl c) (fun i hi => nI_eq (by omega) (by omega)) (by omega) (fun _ => by omega) (fun z0 => absurd z0 (by omega)) (fun T' _ hT => ?_)
        refine rl_yAt ok hj (by omega) (fun U' D' r h1 h2 => ?_)
        refine ⟨?_, L, c, W, S, G, T', C, U', D', H, rfl, rfl, ok⟩
        obtain ⟨p1, p2⟩ := hp
        by_cases hz : rl_lm (rl_U (rl_q L W S G j x) W (c - 1)) 61 = 1000000
        · rw [h1 (p1.mp hz), hz, rl_an_n]
        · have hz' := fun q => hz (p1.mpr q)
          rw [h2 hz', p2 hz', rl_an_y hz, pk_sub (by omega), Nat.add_sub_cancel]
      · by_cases h60 : x ≤ 60
        · refine rl_yAt ok hj h60 (fun U' D' r h1 _ => ?_)
          refine ⟨h1 ?_, L, c, W, S, G, T, C, U', D', H, rfl, rfl, ok⟩
          have := rl_U_eq (rl_o L W S G) W j x
          rw [rl_o_n (by omega)] at this
          omega
        · unfold wpY_costAt
          dsimp only
          refine rl_yBadN hj hc ?_
          refine br_t rfl ?_
          exact br_f h0 (pk_le x 60 (fun z1 => absurd z1 h60) (fun _ => ⟨rfl, rel⟩))
theorem i_vc_room {k : Nat} {u : SX} {v : SY} (I : i_Rel k u v) (hk : k + 4 ≤ 2049) : wpX_room (fun r => wpY_room (fun r' => r' = r ∧ i_Rel (k + 4) u v) v) u := by
  obtain ⟨L, c, W, S, G, T, C, U, D, H, rfl, rfl, ok⟩ := I
  have hc := ok.2.2.1
  have hL := ok.2.1
  exact rl_xRoom ok (rl_yRoom ok ⟨rfl, ⟨L, c, W, S, G, T, C, U, D, H, rfl, rfl, ok⟩⟩)
theorem i_vc_content {k : Nat} {u : SX} {v : SY} (I : i_Rel k u v) (hk : k + 4 ≤ 2049) : wpX_content (fun r u' => wpY_content (fun r' => r' = r ∧ i_Rel (k + 4) u' v) v) u := by
  obtain ⟨L, c, W, S, G, T, C, U, D, H, rfl, rfl, ok⟩ := I
  have hc := ok.2.2.1
  have hL := ok.2.1
  refine rl_xContent ok (fun q C' hM => ?_)
  refine rl_yContent ok (fun q' hM' => ?_)
  exact ⟨by rw [rl_M_u hM' hM], L, c, W, S, G, T, C', U, D, H, rfl, rfl, ok⟩
end

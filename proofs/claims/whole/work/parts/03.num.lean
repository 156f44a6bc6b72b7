/-! numbers, states, the relation -/
abbrev rl_A (W : Nat → Nat) : Nat → Int32 := fun j => nI (W j)
theorem rl_At {i : Nat} (W : Nat → Nat) (h : i < 2 ^ 31) : rl_A W (nI i).toNatClampNeg = nI (W i) := congrArg (fun j => nI (W j)) (nI_clamp h)
theorem rl_Tt {i : Nat} (T : Nat → Int32) (h : i < 2 ^ 31) : T (nI i).toNatClampNeg = T i := congrArg T (nI_clamp h)
def rl_pt (W : Nat → Nat) (k v : Nat) : Nat → Nat := fun j => if j = k then v else W j
theorem rl_pt_e (W : Nat → Nat) (k v : Nat) : rl_pt W k v k = v := if_pos rfl
theorem rl_pt_n {W : Nat → Nat} {k v j : Nat} (h : j ≠ k) : rl_pt W k v j = W j := if_neg h
theorem rl_pt_le {W : Nat → Nat} {k v m : Nat} (h : ∀ j, W j ≤ m) (hv : v ≤ m) : ∀ j, rl_pt W k v j ≤ m := by
  intro j
  by_cases e : j = k
  · subst e; rw [rl_pt_e]; exact hv
  · rw [rl_pt_n e]; exact h j
theorem rl_upd (W : Nat → Nat) {k : Nat} (v : Nat) (h : k < 2 ^ 31) : upd (rl_A W) (nI k).toNatClampNeg (nI v) = rl_A (rl_pt W k v) := by
  rw [nI_clamp h]
  funext j
  show (if j = k then nI v else nI (W j)) = nI (if j = k then v else W j)
  by_cases e : j = k
  · rw [if_pos e, if_pos e]
  · rw [if_neg e, if_neg e]
theorem rl_ut {T : Nat → Int32} {k : Nat} {x : Int32} (h : k < 2 ^ 31) : upd T (nI k).toNatClampNeg x = upd T k x := by rw [nI_clamp h]
theorem rl_A0 : (fun _ => 0 : Nat → Int32) = rl_A (fun _ => 0) := funext fun _ => nI_0.symm
theorem rl_ix (i y : Nat) : nI i * 61 + nI y = nI (i * 61 + y) := (congrArg (fun z => z + nI y) (pk_mul i 61)).trans (nI_add _ _)
theorem rl_ix1 (j y : Nat) : (nI (j + 1) - 1) * 61 + nI y = nI (j * 61 + y) := by rw [nI_pred]; exact rl_ix j y
theorem rl_ix2 (m : Nat) : (nI (m + 1) - 1) * 61 + 61 - 1 = nI (m * 61 + 60) := by
  rw [nI_pred]
  have h : nI m * 61 + 61 = nI (m * 61 + 60 + 1) := rl_ix m 61
  rw [h, nI_pred]
theorem rl_ix3 (i e : Nat) : nI i * 61 + nI (e + 1) - 1 = nI (i * 61 + e) := by
  rw [rl_ix, show i * 61 + (e + 1) = i * 61 + e + 1 from rfl, nI_pred]
theorem rl_neg (a b : Int32) : -(a - b) = b - a := by grind
theorem rl_lt_0 {v : Int32} {n : Nat} (h : nI n ≤ v) (hn : n < 2 ^ 31) : ∃ m : Nat, n ≤ m ∧ m < 2 ^ 31 ∧ v = nI m := by
  have h0 : ¬ v < 0 := by
    intro z
    have h1 : (0 : Int32) ≤ nI n := nI_pos' hn
    exact absurd (Int32.lt_of_lt_of_le z (Int32.le_trans h1 h)) (Int32.lt_irrefl)
  obtain ⟨m, hm, rfl⟩ := nI_of h0
  exact ⟨m, (nI_leI hn hm).mp h, hm, rfl⟩
/-- any number: below 0, or a natural -/
theorem rl_sg (v : Int32) : v < 0 ∨ ∃ m : Nat, m < 2 ^ 31 ∧ v = nI m := by
  by_cases h : v < 0
  · exact Or.inl h
  · exact Or.inr (nI_of h)
def rl_ok (L c : Nat) (W S G : Nat → Nat) : Prop := 10 ≤ L ∧ L ≤ 60 ∧ c ≤ 10 ∧ (∀ j, W j ≤ 5) ∧ (∀ j, S j ≤ 60) ∧ (∀ j, G j ≤ 5)
def rl_w (S G : Nat → Nat) (i x : Nat) : Nat := G i * (S i - x + (x - S i))
def rl_o (L : Nat) (W S G : Nat → Nat) (i x : Nat) : Nat := if x + W i ≤ L then rl_w S G i x else 1000000
theorem rl_o_y {L : Nat} {W S G : Nat → Nat} {i x : Nat} (h : x + W i ≤ L) : rl_o L W S G i x = rl_w S G i x := if_pos h
theorem rl_o_n {L : Nat} {W S G : Nat → Nat} {i x : Nat} (h : L < x + W i) : rl_o L W S G i x = 1000000 := if_neg (by omega)
theorem rl_w_b {L c : Nat} {W S G : Nat → Nat} (hk : rl_ok L c W S G) {i x : Nat} (hx : x ≤ 60) : rl_w S G i x ≤ 300 := by
  obtain ⟨_, _, _, _, hS, hG⟩ := hk
  have h1 := hS i
  exact Nat.mul_le_mul (hG i) (show S i - x + (x - S i) ≤ 60 by omega)
theorem rl_o_b {L c : Nat} {W S G : Nat → Nat} (hk : rl_ok L c W S G) (i x : Nat) : rl_o L W S G i x ≤ 300 ∨ rl_o L W S G i x = 1000000 := by
  by_cases h : x + W i ≤ L
  · rw [rl_o_y h]; exact Or.inl (rl_w_b hk (by have := hk.2.1; omega))
  · exact Or.inr (rl_o_n (by omega))
/-- the same with cell p held at e -/
def rl_q (L : Nat) (W S G : Nat → Nat) (p e : Nat) (i x : Nat) : Nat := if i = p ∧ x ≠ e then 1000000 else rl_o L W S G i x
theorem rl_q_n {L : Nat} {W S G : Nat → Nat} {p e i : Nat} (h : i ≠ p) (x : Nat) : rl_q L W S G p e i x = rl_o L W S G i x := if_neg (fun z => h z.1)
theorem rl_q_e {L : Nat} {W S G : Nat → Nat} {p e : Nat} : rl_q L W S G p e p e = rl_o L W S G p e := if_neg (fun z => z.2 rfl)
theorem rl_q_o {L : Nat} {W S G : Nat → Nat} {p e x : Nat} (h : x ≠ e) : rl_q L W S G p e p x = 1000000 := if_pos ⟨rfl, h⟩
abbrev rl_x (L c : Nat) (W S G : Nat → Nat) (T C : Nat → Int32) : SX := (nI L, nI c, rl_A W, rl_A S, rl_A G, T, C)
abbrev rl_y (L c : Nat) (W S G : Nat → Nat) (U D H : Nat → Int32) : SY := (nI L, nI c, rl_A W, rl_A S, rl_A G, U, D, H)
def i_Rel (k : Nat) (u : SX) (v : SY) : Prop := ∃ (L c : Nat) (W S G : Nat → Nat) (T C U D H : Nat → Int32), u = rl_x L c W S G T C ∧ v = rl_y L c W S G U D H ∧ rl_ok L c W S G
/-- one less, from a natural: 0 goes to -1 -/
def rl_dn (a : Nat) : Int32 := nI a + (-1)
theorem rl_dn_s (a : Nat) : rl_dn (a + 1) = nI a := pk_m1 a
theorem rl_dn_0 : rl_dn 0 < 0 := by decide
theorem rl_dn_lt {a j : Nat} (h : a ≤ j) (hj : j < 2 ^ 31) : rl_dn a < nI j := by
  cases a with
  | zero => exact Int32.lt_of_lt_of_le rl_dn_0 (nI_pos' hj)
  | succ a => rw [rl_dn_s]; exact nI_lt (by omega) hj
theorem rl_dn_m (a : Nat) : nI a - 1 = rl_dn a := by
  cases a with
  | zero => decide
  | succ a => rw [nI_pred, rl_dn_s]
theorem rl_dn_2 (a : Nat) : nI (a + 1) - 2 = rl_dn a := by
  have h : nI (a + 1) - 2 = nI (a + 1) - 1 - 1 := by grind
  rw [h, nI_pred, rl_dn_m]
/-- the answer for a least cost -/
def rl_an (v : Nat) : Int32 := if v = 1000000 then -6 else nI v
theorem rl_an_n : rl_an 1000000 = -6 := if_pos rfl
theorem rl_an_y {v : Nat} (h : v ≠ 1000000) : rl_an v = nI v := if_neg h
theorem rl_bit {s i : Nat} (hs : s < 2 ^ 31) (hi : i < 32) : nI s >>> (nI i &&& 31) &&& 1 = nI (s / 2 ^ i % 2) := by
  rw [pk_shrN hs (nI i &&& 31) i (s_l i hi)]
  exact pk_andN (n := s / 2 ^ i) (Nat.lt_of_le_of_lt (Nat.div_le_self _ _) (by omega)) 1 (by decide)
theorem rl_one {c : Nat} (hc : c ≤ 10) : (1 : Int32) <<< (nI c &&& 31) = nI (2 ^ c) := by
  have h2 : 2 ^ c ≤ 2 ^ 10 := Nat.pow_le_pow_right (by decide) hc
  have h := pk_shlN (n := 1) (nI c &&& 31) c (s_l c (by omega)) (by omega)
  rw [Nat.one_mul] at h
  exact h
def rl_sm (L : Nat) (W : Nat → Nat) : Nat → Int32
  | 0 => nI L
  | i + 1 => rl_sm L W i - nI (W i)
theorem rl_sm_s (L : Nat) (W : Nat → Nat) (i : Nat) : rl_sm L W (i + 1) = rl_sm L W i - nI (W i) := rfl
theorem rl_nn {v : Nat} (h : v < 2 ^ 31) : ¬ nI v = -6 := by
  intro z
  have h1 : (0 : Int32) ≤ nI v := nI_pos' h
  rw [z] at h1
  exact absurd h1 (by decide)

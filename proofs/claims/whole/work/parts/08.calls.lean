/-! the calls -/
section
variable {L c : Nat} {W S G : Nat → Nat} {T C U D H : Nat → Int32}
theorem rl_r3 (v : Int32) (a b : Nat) (ha : a < 2 ^ 31) (hb : b < 2 ^ 31) : v < nI a ∨ (¬ v < nI a ∧ ¬ v ≤ nI b) ∨ ∃ m, a ≤ m ∧ m ≤ b ∧ v = nI m := by
  by_cases h1 : v < nI a
  · exact Or.inl h1
  · by_cases h2 : v ≤ nI b
    · obtain ⟨m, g1, g2, rfl⟩ := rl_lt_0 (Int32.not_lt.mp h1) ha
      exact Or.inr (Or.inr ⟨m, g1, (nI_leI g2 hb).mp h2, rfl⟩)
    · exact Or.inr (Or.inl ⟨h1, h2⟩)
theorem rl_xWishY {post : Int32 → Prop} {v : Int32} (h : v < nI 0 ∨ (¬ v < nI 0 ∧ ¬ v ≤ nI 60)) (hp : post 1) : wpX_isBadWish post (rl_x L c W S G T C) v := by
  rcases h with h | ⟨h, h'⟩
  · exact br_t h hp
  · exact br_f h (br_f h' hp)
theorem rl_xWishN {post : Int32 → Prop} {m : Nat} (hm : m ≤ 60) (hp : post 0) : wpX_isBadWish post (rl_x L c W S G T C) (nI m) :=
  br_f (nI_pos (by omega)) (br_t (nI_le (b := 60) hm (by decide)) hp)
theorem rl_xWeiY {post : Int32 → Prop} {v : Int32} (h : v < nI 1 ∨ (¬ v < nI 1 ∧ ¬ v ≤ nI 5)) (hp : post 1) : wpX_isBadWeight post (rl_x L c W S G T C) v := by
  rcases h with h | ⟨h, h'⟩
  · exact br_t h hp
  · exact br_f h (br_f h' hp)
theorem rl_xWeiN {post : Int32 → Prop} {m : Nat} (h1 : 1 ≤ m) (hm : m ≤ 5) (hp : post 0) : wpX_isBadWeight post (rl_x L c W S G T C) (nI m) :=
  br_f (nI_nlt (b := 1) h1 (by omega)) (br_t (nI_le (b := 5) hm (by decide)) hp)
theorem rl_yWishY {post : Int32 → Prop} {v : Int32} (h : v < nI 0 ∨ (¬ v < nI 0 ∧ ¬ v ≤ nI 60)) (hp : post 1) : wpY_badWish post (rl_y L c W S G U D H) v := by
  rcases h with h | ⟨h, h'⟩
  · exact br_t h hp
  · exact br_f h (br_f h' hp)
theorem rl_yWishN {post : Int32 → Prop} {m : Nat} (hm : m ≤ 60) (hp : post 0) : wpY_badWish post (rl_y L c W S G U D H) (nI m) :=
  br_f (nI_pos (by omega)) (br_t (nI_le (b := 60) hm (by decide)) hp)
theorem rl_yWeiY {post : Int32 → Prop} {v : Int32} (h : v < nI 1 ∨ (¬ v < nI 1 ∧ ¬ v ≤ nI 5)) (hp : post 1) : wpY_badWeight post (rl_y L c W S G U D H) v := by
  rcases h with h | ⟨h, h'⟩
  · exact br_t h hp
  · exact br_f h (br_f h' hp)
theorem rl_yWeiN {post : Int32 → Prop} {m : Nat} (h1 : 1 ≤ m) (hm : m ≤ 5) (hp : post 0) : wpY_badWeight post (rl_y L c W S G U D H) (nI m) :=
  br_f (nI_nlt (b := 1) h1 (by omega)) (br_t (nI_le (b := 5) hm (by decide)) hp)
def rl_sw (W : Nat → Nat) (j : Nat) : Nat → Nat := rl_pt (rl_pt W j (W (j + 1))) (j + 1) (W j)
theorem rl_sw_le {m j : Nat} (h : ∀ j, W j ≤ m) : ∀ i, rl_sw W j i ≤ m := rl_pt_le (rl_pt_le h (h _)) (h _)
theorem rl_sA (W : Nat → Nat) {j : Nat} (h : j < 10) : upd (rl_A W) (nI j).toNatClampNeg (rl_A W (nI j + 1).toNatClampNeg) = rl_A (rl_pt W j (W (j + 1))) := by rw [nI_1, rl_At W (by omega), rl_upd W _ (by omega)]
theorem rl_sB (W : Nat → Nat) {j : Nat} (h : j < 10) : upd (rl_A (rl_pt W j (W (j + 1)))) (nI j + 1).toNatClampNeg (nI (W j)) = rl_A (rl_sw W j) := by rw [nI_1, rl_upd _ _ (by omega)]; rfl
theorem rl_xSw_widths {post : SX → Prop} {j : Nat} (hj : j + 1 < 10) (h : post (rl_x L c (rl_sw W j) S G T C)) : wpX_swapWithNext__widths post (rl_x L c W S G T C) (nI j) := by
  have hv : vp_in (nI j) 10 := vp_in_nI (by omega) (by decide)
  have hv1 : vp_in (nI j + 1) 10 := pk_in (j + 1) 10 hj (nI_1 j)
  exact ⟨hv, nm_r (rl_At W (by omega)) ⟨hv1, hv, nm_r (rl_sA W (by omega)) ⟨hv1, nm_r (rl_sB W (by omega)) h⟩⟩⟩
theorem rl_xSw_wishes {post : SX → Prop} {j : Nat} (hj : j + 1 < 10) (h : post (rl_x L c W (rl_sw S j) G T C)) : wpX_swapWithNext__wishes post (rl_x L c W S G T C) (nI j) := by
  have hv : vp_in (nI j) 10 := vp_in_nI (by omega) (by decide)
  have hv1 : vp_in (nI j + 1) 10 := pk_in (j + 1) 10 hj (nI_1 j)
  exact ⟨hv, nm_r (rl_At S (by omega)) ⟨hv1, hv, nm_r (rl_sA S (by omega)) ⟨hv1, nm_r (rl_sB S (by omega)) h⟩⟩⟩
theorem rl_xSw_weights {post : SX → Prop} {j : Nat} (hj : j + 1 < 10) (h : post (rl_x L c W S (rl_sw G j) T C)) : wpX_swapWithNext__weights post (rl_x L c W S G T C) (nI j) := by
  have hv : vp_in (nI j) 10 := vp_in_nI (by omega) (by decide)
  have hv1 : vp_in (nI j + 1) 10 := pk_in (j + 1) 10 hj (nI_1 j)
  exact ⟨hv, nm_r (rl_At G (by omega)) ⟨hv1, hv, nm_r (rl_sA G (by omega)) ⟨hv1, nm_r (rl_sB G (by omega)) h⟩⟩⟩
theorem rl_exl {j c : Nat} (h : nI j < nI c - 1) (hj : j < 2 ^ 31) (hc : c ≤ 10) : j + 1 < c := by
  cases c with
  | zero =>
    rw [rl_dn_m] at h
    exact absurd (Int32.lt_of_lt_of_le (Int32.lt_trans h rl_dn_0) (nI_pos' hj)) Int32.lt_irrefl
  | succ c =>
    rw [nI_pred] at h
    have := (nI_ltI hj (by omega)).mp h
    omega
theorem rl_np (hc : c ≤ 10) {i : Nat} (hi : i < c) (e m : Nat) : rl_lm (rl_U (rl_q L W S G 10 e) W i) m = rl_lm (rl_U (rl_o L W S G) W i) m :=
  rl_lm_cg m (fun y _ => rl_U_cg i (fun j hj x => rl_q_n (by omega) x) y)
theorem rl_m1n : ∀ i, i < 10 → (nI i = -1 ↔ i = 10) := by decide
theorem rl_xCost (hk : rl_ok L c W S G) {post : Int32 → SX → Prop} {n : Nat} (hn : n ≤ c)
    (h0 : n = 0 → post 0 (rl_x L c W S G T C))
    (h : ∀ T' : Nat → Int32, 0 < n → (∀ i, i < n → ∀ x, x < 61 → T' (i * 61 + x) = nI (rl_lm (rl_U (rl_o L W S G) W i) (x + 1))) → post (rl_an (rl_lm (rl_U (rl_o L W S G) W (n - 1)) 61)) (rl_x L c W S G T' C)) :
    wpX_leastCost post (rl_x L c W S G T C) (nI n) (-1) 0 := by
  have hc := hk.2.2.1
  refine rl_xLeast hk (p := 10) (e := 0) hn rl_m1n (by omega) (fun z => absurd z (by omega)) h0 (fun T' hp hT => ?_)
  have := h T' hp (fun i hi x hx => by rw [hT i hi x hx, rl_np hc (by omega)])
  rw [← rl_np (L := L) (S := S) (G := G) hc (show n - 1 < c by omega) 0 61] at this
  exact this
theorem rl_pr {n : Nat} (h : 0 < n) : nI n - 1 = nI (n - 1) := by
  obtain ⟨m, rfl⟩ : ∃ m, n = m + 1 := ⟨n - 1, by omega⟩
  rw [nI_pred, Nat.add_sub_cancel]
theorem rl_yCost (hk : rl_ok L c W S G) {post : Int32 → SY → Prop} {n : Nat} (hn : n ≤ c)
    (h0 : n = 0 → post 0 (rl_y L c W S G U D H))
    (h : ∀ U' : Nat → Int32, 0 < n → post (rl_an (rl_lm (rl_U (rl_o L W S G) W (n - 1)) 61)) (rl_y L c W S G U' D H)) :
    wpY_costOf post (rl_y L c W S G U D H) (nI n) := by
  have hc := hk.2.2.1
  refine br_f (nI_pos (by omega)) (br_t (nI_le hn (by omega)) ?_)
  refine pk_eq n 0 (fun z => h0 z) (fun z => ?_)
  refine rl_yUp hk hn (fun U' hU => ?_)
  refine rl_yLeastUp (f := rl_U (rl_o L W S G) W (n - 1)) (rl_pr (by omega)) (by omega) (hU (n - 1) (by omega)) (fun x => rl_U_le _ _ _ _) ?_
  have h1 := h U' (by omega)
  have hle := rl_lm_le (rl_U (rl_o L W S G) W (n - 1)) 61
  refine pk_eq (rl_lm (rl_U (rl_o L W S G) W (n - 1)) 61) 1000000 (fun z => ?_) (fun z => ?_)
  · rw [z, rl_an_n] at h1; exact h1
  · rw [rl_an_y z] at h1; exact h1
theorem rl_yAt (hk : rl_ok L c W S G) {post : Int32 → SY → Prop} {j x : Nat} (hj : j < c) (hx : x ≤ 60)
    (h : ∀ (U' D' : Nat → Int32) (r : Int32), (min (rl_U (rl_o L W S G) W j x + rl_D (rl_o L W S G) W c (c - 1 - j) x) 1000000 = 1000000 → r = -6) → (min (rl_U (rl_o L W S G) W j x + rl_D (rl_o L W S G) W c (c - 1 - j) x) 1000000 ≠ 1000000 → r = nI (min (rl_U (rl_o L W S G) W j x + rl_D (rl_o L W S G) W c (c - 1 - j) x) 1000000) - nI (rl_o L W S G j x)) → post r (rl_y L c W S G U' D' H)) :
    wpY_costAt post (rl_y L c W S G U D H) (nI j) (nI x) := by
  have hc := hk.2.2.1
  unfold wpY_costAt
  refine rl_yBadN hj hc ?_
  refine br_t rfl ?_
  refine br_f (nI_pos (by omega)) (br_t (nI_le (b := 60) hx (by decide)) ?_)
  refine rl_yUp hk (Nat.le_refl c) (fun U' hU => ?_)
  refine rl_yDown hk (fun D' hD => ?_)
  have hv : vp_in (nI j * 61 + nI x) 610 := pk_in (j * 61 + x) 610 (by omega) (rl_ix j x)
  have eU : U' (nI j * 61 + nI x).toNatClampNeg = nI (rl_U (rl_o L W S G) W j x) := by rw [rl_ix, nI_clamp (by omega)]; exact hU j hj x (by omega)
  have eD : D' (nI j * 61 + nI x).toNatClampNeg = nI (rl_D (rl_o L W S G) W c (c - 1 - j) x) := by
    rw [rl_ix, nI_clamp (by omega)]
    have := hD (c - 1 - j) (by omega) x (by omega)
    rw [show c - 1 - (c - 1 - j) = j by omega] at this
    exact this
  have l1 := rl_U_le (rl_o L W S G) W j x
  have l2 := rl_D_le (rl_o L W S G) W c (c - 1 - j) x
  refine ⟨hv, hv, ?_⟩
  refine rl_ySum eU eD (by omega) ?_
  refine pk_eq (min (rl_U (rl_o L W S G) W j x + rl_D (rl_o L W S G) W c (c - 1 - j) x) 1000000) 1000000 (fun z => ?_) (fun z => ?_)
  · exact h U' D' _ (fun _ => rfl) (fun z1 => absurd z z1)
  · refine rl_yOwn hk (by omega) (by omega) ?_
    exact h U' D' _ (fun z1 => absurd z1 z) (fun _ => rfl)
end

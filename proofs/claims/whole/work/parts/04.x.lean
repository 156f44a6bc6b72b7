/-! the component's own methods -/
section
variable {L c : Nat} {W S G : Nat → Nat} {T C : Nat → Int32}
theorem rl_xBadY {post : Int32 → Prop} {v : Int32} (h : v < 0 ∨ nI c ≤ v) (hp : post 1) : wpX_isBadCell post (rl_x L c W S G T C) v := by
  by_cases h0 : v < 0
  · exact br_t h0 hp
  · have h1 : ¬ v < nI c := Int32.not_lt.mpr (h.resolve_left h0)
    exact br_f h0 (br_f h1 hp)
theorem rl_xBadN {post : Int32 → Prop} {j : Nat} (hj : j < c) (hc : c ≤ 10) (hp : post 0) : wpX_isBadCell post (rl_x L c W S G T C) (nI j) :=
  br_f (nI_pos (by omega)) (br_t (nI_lt hj (by omega)) hp)
theorem rl_xOwn {post : Int32 → Prop} (hk : rl_ok L c W S G) {i y : Nat} (hi : i < 10) (hy : y < 61) (h : post (nI (rl_w S G i y))) : wpX_ownCost post (rl_x L c W S G T C) (nI i) (nI y) := by
  have hS := hk.2.2.2.2.1 i
  refine ⟨vp_in_nI hi (by decide), ?_⟩
  have e : nI y - rl_A S (nI i).toNatClampNeg = nI y - nI (S i) := by rw [rl_At S (by omega)]
  refine nm_r e ?_
  refine ⟨vp_in_nI hi (by decide), ?_⟩
  by_cases hz : S i ≤ y
  · have e2 : nI y - nI (S i) = nI (y - S i) := pk_sub hz
    refine br_t (by rw [e2]; exact nI_pos' (by omega)) ?_
    have e3 : rl_A G (nI i).toNatClampNeg * (nI y - nI (S i)) = nI (rl_w S G i y) := by
      rw [rl_At G (by omega), e2, pk_mul]
      unfold rl_w
      rw [show S i - y = 0 by omega, Nat.zero_add]
    show post (rl_A G (nI i).toNatClampNeg * (nI y - nI (S i)))
    rw [e3]; exact h
  · have e2 : -(nI y - nI (S i)) = nI (S i - y) := by rw [rl_neg, pk_sub (by omega)]
    refine br_f (Int32.not_le.mpr (pk_sneg (by omega) (by omega))) ?_
    have e3 : rl_A G (nI i).toNatClampNeg * -(nI y - nI (S i)) = nI (rl_w S G i y) := by
      rw [rl_At G (by omega), e2, pk_mul]
      unfold rl_w
      rw [show y - S i = 0 by omega, Nat.add_zero]
    show post (rl_A G (nI i).toNatClampNeg * -(nI y - nI (S i)))
    rw [e3]; exact h
theorem rl_xBefore {post : Int32 → Prop} {o : Nat → Nat → Nat} (hk : rl_ok L c W S G) {i y : Nat} (hi : i < 10) (hy : y < 61)
    (hT : ∀ j, j + 1 = i → ∀ x, x < 61 → T (j * 61 + x) = nI (rl_lm (rl_U o W j) (x + 1)))
    (h : post (nI (rl_B o W i y))) : wpX_costBefore post (rl_x L c W S G T C) (nI i) (nI y) := by
  cases i with
  | zero => exact pk_eq 0 0 (fun _ => h) (fun z => absurd rfl z)
  | succ j =>
    refine pk_eq (j + 1) 0 (fun z => absurd z (by omega)) (fun _ => ?_)
    have ej : nI (j + 1) - 1 = nI j := nI_pred j
    have hw := hk.2.2.2.1 j
    refine ⟨pk_in j 10 (by omega) ej, ?_⟩
    have e : nI y - rl_A W (nI (j + 1) - 1).toNatClampNeg = nI y - nI (W j) := by rw [ej, rl_At W (by omega)]
    refine nm_r e ?_
    by_cases hz : W j ≤ y
    · have e2 : nI y - nI (W j) = nI (y - W j) := pk_sub hz
      refine br_t (by rw [e2]; exact nI_pos' (by omega)) ?_
      have e3 : (nI (j + 1) - 1) * 61 + (nI y - nI (W j)) = nI (j * 61 + (y - W j)) := by rw [e2, rl_ix1]
      refine ⟨pk_in (j * 61 + (y - W j)) 610 (by omega) e3, ?_⟩
      have e4 : T ((nI (j + 1) - 1) * 61 + (nI y - nI (W j))).toNatClampNeg = nI (rl_B o W (j + 1) y) := by
        rw [e3, nI_clamp (by omega), hT j rfl _ (by omega), rl_B_s, show y - W j + 1 = y + 1 - W j by omega]
      show post (T ((nI (j + 1) - 1) * 61 + (nI y - nI (W j))).toNatClampNeg)
      rw [e4]; exact h
    · refine br_f (Int32.not_le.mpr (pk_sneg (by omega) (by omega))) ?_
      have e5 : rl_B o W (j + 1) y = 1000000 := by rw [rl_B_s, show y + 1 - W j = 0 by omega]; rfl
      rw [e5] at h
      exact h
theorem rl_xFill {o : Nat → Nat → Nat} (hk : rl_ok L c W S G) {post : SX → Prop} (i a b : Nat) {xb : Int32} (eb : xb = nI b) (hi : i < 10) (ha : a ≤ 60) (hb : b ≤ 60)
    (ho : ∀ y, y < 61 → (a ≤ y ∧ y ≤ b → o i y = rl_w S G i y) ∧ (¬ (a ≤ y ∧ y ≤ b) → o i y = 1000000))
    (hT : ∀ j, j + 1 = i → ∀ x, x < 61 → T (j * 61 + x) = nI (rl_lm (rl_U o W j) (x + 1)))
    (h : ∀ T' : Nat → Int32, (∀ k, k < i * 61 → T' k = T k) → (∀ x, x < 61 → T' (i * 61 + x) = nI (rl_lm (rl_U o W i) (x + 1))) → post (rl_x L c W S G T' C)) :
    wpX_fillCell post (rl_x L c W S G T C) (nI i) (nI a) xb := by
  subst eb
  refine loop_0 (fun n y (T1 : Nat → Int32) => wX_fillCell_7 post (nI i) (nI a) (nI b) (nI L) (nI c) n (nI (rl_lm (rl_U o W i) y)) (nI y) (rl_A W) (rl_A S) (rl_A G) T1 C)
    (fun y T1 => (∀ k, k < i * 61 → T1 k = T k) ∧ ∀ x, x < y → T1 (i * 61 + x) = nI (rl_lm (rl_U o W i) (x + 1))) 61 T ⟨fun _ _ => rfl, fun x hx => absurd hx (Nat.not_lt_zero x)⟩ ?_ ?_
  · intro n T1 hI
    exact pk_le 61 61 (fun _ => h T1 hI.1 hI.2) (fun z => absurd z (by omega))
  · intro n y T1 hy hI k
    refine pk_le 61 y (fun z => absurd z (by omega)) (fun _ => ?_)
    have hl := rl_lm_le (rl_U o W i) y
    have hs := rl_lm_s (rl_U o W i) y
    have hu := rl_U_eq o W i y
    have hB := rl_B_le o W i y
    have hT1 : ∀ j, j + 1 = i → ∀ x, x < 61 → T1 (j * 61 + x) = nI (rl_lm (rl_U o W j) (x + 1)) := fun j hj x hx => (hI.1 _ (by omega)).trans (hT j hj x hx)
    have join : ∀ m, m = rl_lm (rl_U o W i) (y + 1) → wX_fillCell_54 post (wX_fillCell_7 post (nI i) (nI a) (nI b) (nI L) (nI c) n) (nI i) (nI a) (nI b) (nI m) (nI y) (nI L) (nI c) (rl_A W) (rl_A S) (rl_A G) T1 C := by
      intro m hm
      subst hm
      refine ⟨pk_in (i * 61 + y) 610 (by omega) (rl_ix i y), ?_⟩
      refine nm_r (e' := upd T1 (i * 61 + y) (nI (rl_lm (rl_U o W i) (y + 1)))) (by rw [rl_ix, nI_clamp (by omega)]) ?_
      refine nm_r (nI_1 y) ?_
      refine k _ ⟨fun k hk => (pk_un (by omega)).trans (hI.1 k hk), fun x hx => ?_⟩
      by_cases ex : x = y
      · subst ex; exact pk_us
      · exact (pk_un (by omega)).trans (hI.2 x (by omega))
    obtain ⟨hy1, hy2⟩ := ho y hy
    refine pk_lt y a (fun z => join _ ?_) (fun z1 => pk_lt b y (fun z2 => join _ ?_) (fun z2 => ?_))
    · have := hy2 (by omega); omega
    · have := hy2 (by omega); omega
    · have hw := rl_w_b hk (i := i) (x := y) (by omega)
      have ho1 := hy1 ⟨z1, z2⟩
      refine rl_xBefore hk (o := o) hi hy hT1 ?_
      refine rl_xOwn hk hi hy ?_
      refine nm_r (nI_add _ _) ?_
      refine pk_le (rl_lm (rl_U o W i) y) (rl_B o W i y + rl_w S G i y) (fun z => join _ ?_) (fun z => join _ ?_)
      · omega
      · omega
theorem rl_xLeast (hk : rl_ok L c W S G) {post : Int32 → SX → Prop} {n p e : Nat} {q : Int32} (hn : n ≤ c) (hq : ∀ i, i < 10 → (nI i = q ↔ i = p)) (he : e ≤ 60) (hp : p < n → e + W p ≤ L)
    (h0 : n = 0 → post 0 (rl_x L c W S G T C))
    (h : ∀ T' : Nat → Int32, 0 < n → (∀ i, i < n → ∀ x, x < 61 → T' (i * 61 + x) = nI (rl_lm (rl_U (rl_q L W S G p e) W i) (x + 1))) → post (rl_an (rl_lm (rl_U (rl_q L W S G p e) W (n - 1)) 61)) (rl_x L c W S G T' C)) :
    wpX_leastCost post (rl_x L c W S G T C) (nI n) q (nI e) := by
  have hc := hk.2.2.1
  have hL := hk.1
  have hL2 := hk.2.1
  refine pk_eq n 0 (fun z => h0 z) (fun z0 => ?_)
  refine loop_0 (fun m i (T1 : Nat → Int32) => wX_leastCost_9 post (nI n) q (nI e) m (nI i) (nI L) (nI c) (rl_A W) (rl_A S) (rl_A G) T1 C)
    (fun i T1 => ∀ a, a < i → ∀ x, x < 61 → T1 (a * 61 + x) = nI (rl_lm (rl_U (rl_q L W S G p e) W a) (x + 1))) n T (fun a ha => absurd ha (Nat.not_lt_zero a)) ?_ ?_
  · intro m T1 hI
    refine pk_le n n (fun _ => ?_) (fun z => absurd z (by omega))
    obtain ⟨b, rfl⟩ : ∃ b, n = b + 1 := ⟨n - 1, by omega⟩
    have h1 := h T1 (by omega) hI
    have hv := hI b (by omega) 60 (by omega)
    have hle := rl_lm_le (rl_U (rl_q L W S G p e) W b) 61
    have e1 : T1 ((nI (b + 1) - 1) * 61 + 61 - 1).toNatClampNeg = nI (rl_lm (rl_U (rl_q L W S G p e) W b) 61) := by rw [rl_ix2, nI_clamp (by omega)]; exact hv
    refine ⟨pk_in (b * 61 + 60) 610 (by omega) (rl_ix2 b), ?_⟩
    refine nm_r e1 ?_
    refine pk_lt (rl_lm (rl_U (rl_q L W S G p e) W b) 61) 1000000 (fun z => ?_) (fun z => ?_)
    · rw [Nat.add_sub_cancel, rl_an_y (by omega)] at h1; exact h1
    · have ev : rl_lm (rl_U (rl_q L W S G p e) W b) 61 = 1000000 := by omega
      rw [Nat.add_sub_cancel, ev, rl_an_n] at h1; exact h1
  · intro m i T1 hi hI k
    have hw := hk.2.2.2.1 i
    have hT1 : ∀ j, j + 1 = i → ∀ x, x < 61 → T1 (j * 61 + x) = nI (rl_lm (rl_U (rl_q L W S G p e) W j) (x + 1)) := fun j hj => hI j (by omega)
    have hk2 : ∀ T' : Nat → Int32, (∀ k, k < i * 61 → T' k = T1 k) → (∀ x, x < 61 → T' (i * 61 + x) = nI (rl_lm (rl_U (rl_q L W S G p e) W i) (x + 1))) → ∀ a, a < i + 1 → ∀ x, x < 61 → T' (a * 61 + x) = nI (rl_lm (rl_U (rl_q L W S G p e) W a) (x + 1)) := by
      intro T' g1 g2 a ha x hx
      by_cases ea : a = i
      · subst ea; exact g2 x hx
      · have : a * 61 + x < i * 61 := by omega
        rw [g1 _ this]; exact hI a (by omega) x hx
    refine pk_le n i (fun z => absurd z (by omega)) (fun _ => ?_)
    by_cases ep : i = p
    · refine br_t ((hq i (by omega)).mpr ep) ?_
      refine rl_xFill hk (o := rl_q L W S G p e) i e e rfl (by omega) he he ?_ hT1 ?_
      · intro y hy
        refine ⟨fun z => ?_, fun z => ?_⟩
        · have ey : y = e := by omega
          subst ey; subst ep
          rw [rl_q_e, rl_o_y (hp hi)]
        · subst ep; exact rl_q_o (by omega)
      · intro T' g1 g2
        refine nm_r (nI_1 i) ?_
        exact k T' (hk2 T' g1 g2)
    · refine br_f (fun z => ep ((hq i (by omega)).mp z)) ?_
      have e2 : nI L - rl_A W (nI i).toNatClampNeg = nI (L - W i) := by rw [rl_At W (by omega), pk_sub (by omega)]
      refine ⟨pk_in i 10 (by omega), ?_⟩
      refine rl_xFill hk (o := rl_q L W S G p e) i 0 (L - W i) e2 (by omega) (by omega) (by omega) ?_ hT1 ?_
      · intro y hy
        rw [rl_q_n ep]
        exact ⟨fun z => rl_o_y (by omega), fun z => rl_o_n (by omega)⟩
      · intro T' g1 g2
        refine nm_r (nI_1 i) ?_
        exact k T' (hk2 T' g1 g2)
theorem rl_xEdge {f : Nat → Nat} {post : Int32 → Prop} {i : Nat} (hi : i < 10) (hT : ∀ x, x < 61 → T (i * 61 + x) = nI (rl_lm f (x + 1))) : ∀ e, e ≤ 60 → post (nI (rl_fi f e)) → wX_leftmostEdge_8 post (nI i * 61) (nI L) (nI c) (rl_A W) (rl_A S) (rl_A G) T C (e + 1) (nI e) := by
  intro e
  induction e with
  | zero => intro _ h; exact pk_le 0 0 (fun _ => h) (fun z => absurd z (by omega))
  | succ e ih =>
    intro he h
    have e1 : T (nI i * 61 + nI (e + 1) - 1).toNatClampNeg = nI (rl_lm f (e + 1)) := by rw [rl_ix3, nI_clamp (by omega)]; exact hT e (by omega)
    have e2 : T (nI i * 61 + nI (e + 1)).toNatClampNeg = nI (rl_lm f (e + 2)) := by rw [rl_ix, nI_clamp (by omega)]; exact hT (e + 1) (by omega)
    have l1 := rl_lm_le f (e + 1)
    have l2 := rl_lm_le f (e + 2)
    rw [rl_fi_s] at h
    refine pk_le (e + 1) 0 (fun z => absurd z (by omega)) (fun _ => ?_)
    refine ⟨pk_in (i * 61 + e) 610 (by omega) (rl_ix3 i e), pk_in (i * 61 + (e + 1)) 610 (by omega) (rl_ix i (e + 1)), ?_⟩
    refine pk_eq (rl_lm f (e + 1)) (rl_lm f (e + 2)) (fun z => ?_) (fun z => ?_) e1 e2
    · rw [if_pos z] at h
      exact nm_r (pk_m1 e) (ih (by omega) h)
    · rw [if_neg z] at h
      exact h
theorem rl_xEdgeM {f : Nat → Nat} {post : Int32 → Prop} {i : Nat} {x0 xe : Int32} (e0 : x0 = nI i) (hi : i < 10) (hT : ∀ x, x < 61 → T (i * 61 + x) = nI (rl_lm f (x + 1))) (e : Nat) (ee : xe = nI e) (he : e ≤ 60) (h : post (nI (rl_fi f e))) : wpX_leftmostEdge post (rl_x L c W S G T C) x0 xe := by
  subst e0
  subst ee
  exact nm_e ⟨e + 1, rl_xEdge hi hT e he h⟩
end

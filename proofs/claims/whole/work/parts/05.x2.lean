section
variable {L c : Nat} {W S G : Nat → Nat} {T C : Nat → Int32}
theorem rl_xLeft (hk : rl_ok L c W S G) {post : Int32 → SX → Prop} {j : Nat} {o : Nat → Nat → Nat} (hT : ∀ i, i < c → ∀ x, x < 61 → T (i * 61 + x) = nI (rl_lm (rl_U o W i) (x + 1))) (hv : rl_lm (rl_U o W (c - 1)) 61 < 1000000)
    (h : post (nI (rl_ed o W c (c - 1 - j))) (rl_x L c W S G T C)) : ∀ t a, a = j + t → a < c → wX_leftmost_49 post (nI j) (nI L) (nI c) (rl_A W) (rl_A S) (rl_A G) T C (t + 1) (nI (rl_ed o W c (c - 1 - a))) (rl_dn a) := by
  have hc := hk.2.2.1
  intro t
  induction t with
  | zero =>
    intro a ha hac
    have ea : a = j := by omega
    subst ea
    exact br_t (rl_dn_lt (Nat.le_refl _) (by omega)) h
  | succ t ih =>
    intro a ha hac
    obtain ⟨b, rfl⟩ : ∃ b, a = b + 1 := ⟨j + t, by omega⟩
    obtain ⟨p1, p2⟩ := rl_path hv (c - 1 - (b + 1)) (by omega)
    obtain ⟨q1, _⟩ := rl_du_s (o := o) (W := W) (c := c) (d := c - 1 - (b + 1)) (by omega) p2
    obtain ⟨q2, _, _⟩ := rl_ed_ok o W c (c - 1 - (b + 1))
    have ed : c - 1 - (b + 1) + 1 = c - 1 - b := by omega
    have eb : c - 1 - (c - 1 - b) = b := by omega
    rw [ed, eb] at q1
    have el : rl_la o W c (c - 1 - b) = rl_ed o W c (c - 1 - (b + 1)) - W b := by
      have := rl_la_s o W c (c - 1 - (b + 1))
      rw [ed, eb] at this
      exact this
    rw [rl_dn_s]
    refine br_f (nI_nlt (by omega) (by omega)) ?_
    refine ⟨pk_in b 10 (by omega), ?_⟩
    have e2 : nI (rl_ed o W c (c - 1 - (b + 1))) - rl_A W (nI b).toNatClampNeg = nI (rl_la o W c (c - 1 - b)) := by rw [rl_At W (by omega), pk_sub q1, el]
    refine rl_xEdgeM (f := rl_U o W b) rfl (by omega) (hT b (by omega)) (rl_la o W c (c - 1 - b)) e2 (by omega) ?_
    refine nm_e ?_
    have ee : rl_fi (rl_U o W b) (rl_la o W c (c - 1 - b)) = rl_ed o W c (c - 1 - b) := by unfold rl_ed; rw [eb]
    rw [ee]
    exact ih b (by omega) (by omega)
theorem rl_xRoom {post : Int32 → Prop} (hk : rl_ok L c W S G) (h : post (rl_sm L W c)) : wpX_room post (rl_x L c W S G T C) := by
  have hc := hk.2.2.1
  refine loop_0 (fun n i (_ : Unit) => wX_room_7 post (nI L) (nI c) (rl_A W) (rl_A S) (rl_A G) T C n (rl_sm L W i) (nI i)) (fun _ _ => True) c () trivial ?_ ?_
  · intro n _ _
    exact pk_le c c (fun _ => h) (fun z => absurd z (by omega))
  · intro n i _ hi _ k
    refine pk_le c i (fun z => absurd z (by omega)) (fun _ => ?_)
    refine ⟨pk_in i 10 (by omega), ?_⟩
    refine nm_r (e' := rl_sm L W (i + 1)) (by rw [rl_At W (by omega), rl_sm_s]) ?_
    exact nm_r (nI_1 i) (k () trivial)
theorem rl_xChain {post : Int32 → Prop} (hk : rl_ok L c W S G) {j : Nat} (hj : j < c) (hC : ∀ a, a < j → ∃ q, C a = nI q ∧ rl_Q S W L a q) (h : ∀ q, rl_Q S W L j q → post (nI q)) : wpX_longestChainTo post (rl_x L c W S G T C) (nI j) := by
  have hc := hk.2.2.1
  have hL := hk.2.1
  have hvj : vp_in (nI j) 10 := vp_in_nI (by omega) (by decide)
  have hwj := hk.2.2.2.1 j
  have hSj := hk.2.2.2.2.1 j
  have eSW : rl_A S (nI j).toNatClampNeg + rl_A W (nI j).toNatClampNeg = nI (S j + W j) := by rw [rl_At S (by omega), rl_At W (by omega), nI_add]
  refine ⟨hvj, hvj, ?_⟩
  refine pk_le (S j + W j) L (fun z => ?_) (fun z => h 0 (rl_Q_bad z)) eSW
  refine loop_0 (fun n i (q : Nat) => wX_longestChainTo_26 post (nI j) (nI L) (nI c) (rl_A W) (rl_A S) (rl_A G) T C n (nI q) (nI i)) (fun i q => rl_P S W L j i q ∧ q ≤ 10) j 0 ⟨rl_P_0, by omega⟩ ?_ ?_
  · intro n q hI
    refine pk_le j j (fun _ => ?_) (fun z => absurd z (by omega))
    have := h (q + 1) (rl_P_end z hI.1)
    rw [← nI_1] at this
    exact this
  · intro n i q hi hI k
    refine pk_le j i (fun z => absurd z (by omega)) (fun _ => ?_)
    have hv : vp_in (nI i) 10 := vp_in_nI (by omega) (by decide)
    have hw := hk.2.2.2.1 i
    have hS := hk.2.2.2.2.1 i
    have eS : rl_A S (nI i).toNatClampNeg + rl_A W (nI i).toNatClampNeg = nI (S i + W i) := by rw [rl_At S (by omega), rl_At W (by omega), nI_add]
    have eJ := rl_At S (i := j) (by omega)
    obtain ⟨r, hr, hQ⟩ := hC i hi
    have hr1 := rl_Q_le hQ
    have er : C (nI i).toNatClampNeg = nI r := by rw [nI_clamp (by omega)]; exact hr
    refine ⟨hv, hv, hvj, ?_⟩
    refine pk_lt (S j) (S i + W i) (fun z1 => ?_) (fun z1 => ⟨hv, ?_⟩) eJ eS
    · exact nm_r (nI_1 i) (k q ⟨rl_P_no hI.1 (by omega), hI.2⟩)
    · refine pk_le r q (fun z2 => ?_) (fun z2 => ⟨hv, ?_⟩) er
      · exact nm_r (nI_1 i) (k q ⟨rl_P_le hI.1 hQ z2, hI.2⟩)
      · refine nm_r er ?_
        exact nm_r (nI_1 i) (k r ⟨rl_P_gt hI.1 z1 hQ z2, by omega⟩)
theorem rl_xContent {post : Int32 → SX → Prop} (hk : rl_ok L c W S G) (h : ∀ q C', rl_M S W L c q → post (nI q) (rl_x L c W S G T C')) : wpX_content post (rl_x L c W S G T C) := by
  have hc := hk.2.2.1
  refine loop_0 (fun n i (s : Nat × (Nat → Int32)) => wX_content_4 post (nI L) (nI c) n (nI s.1) (nI i) (rl_A W) (rl_A S) (rl_A G) T s.2) (fun i s => (rl_M S W L i s.1 ∧ s.1 ≤ 10) ∧ ∀ a, a < i → ∃ q, s.2 a = nI q ∧ rl_Q S W L a q) c (0, C) ⟨⟨rl_M_0, Nat.zero_le 10⟩, fun a ha => absurd ha (Nat.not_lt_zero a)⟩ ?_ ?_
  · intro n s hI
    exact pk_le c c (fun _ => h s.1 s.2 hI.1.1) (fun z => absurd z (by omega))
  · intro n i s hi hI k
    obtain ⟨m, C1⟩ := s
    obtain ⟨⟨hM, hm⟩, hC⟩ := hI
    dsimp only at hM hm hC ⊢
    refine pk_le c i (fun z => absurd z (by omega)) (fun _ => ?_)
    have hv : vp_in (nI i) 10 := vp_in_nI (by omega) (by decide)
    refine rl_xChain hk hi hC (fun r hQ => ?_)
    have hr := rl_Q_le hQ
    refine ⟨hv, ?_⟩
    refine nm_r (rl_ut (by omega)) ?_
    have hC2 : ∀ a, a < i + 1 → ∃ q, upd C1 i (nI r) a = nI q ∧ rl_Q S W L a q := by
      intro a ha
      by_cases ea : a = i
      · subst ea; exact ⟨r, pk_us, hQ⟩
      · obtain ⟨q, h1, h2⟩ := hC a (by omega)
        exact ⟨q, (pk_un ea).trans h1, h2⟩
    have er : upd C1 i (nI r) (nI i).toNatClampNeg = nI r := by rw [nI_clamp (by omega)]; exact pk_us
    refine ⟨hv, ?_⟩
    refine pk_le r m (fun z => ?_) (fun z => ⟨hv, ?_⟩) er
    · exact nm_r (nI_1 i) (k (m, _) ⟨⟨rl_M_le hM hQ z, hm⟩, hC2⟩)
    · refine nm_r er ?_
      exact nm_r (nI_1 i) (k (r, _) ⟨⟨rl_M_gt hM hQ z, by omega⟩, hC2⟩)
end

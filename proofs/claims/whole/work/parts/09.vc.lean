theorem i_up {k : Nat} {u : SX} {v : SY} (h : i_Rel k u v) : i_Rel (k + 4) u v := h
theorem rl_new {L k : Nat} (h : 10 ≤ L) (h2 : L ≤ 60) : i_Rel k (nI L, 0, (fun _ => 0), (fun _ => 0), (fun _ => 0), (fun _ => 0), (fun _ => 0)) (nI L, 0, (fun _ => 0), (fun _ => 0), (fun _ => 0), (fun _ => 0), (fun _ => 0), (fun _ => 0)) :=
  ⟨L, 0, fun _ => 0, fun _ => 0, fun _ => 0, fun _ => 0, fun _ => 0, fun _ => 0, fun _ => 0, fun _ => 0, rfl, rfl, h, h2, by omega, fun _ => Nat.zero_le _, fun _ => Nat.zero_le _, fun _ => Nat.zero_le _⟩
theorem i_vc0 (k0 : Int32) : wpX_init (fun u => wpY_init (fun v => i_Rel 1 u v) k0) k0 := by
  by_cases h : (10 : Int32) ≤ k0
  · obtain ⟨m, h1, h2, rfl⟩ := rl_lt_0 (n := 10) h (by decide)
    refine br_t h ?_
    refine pk_le m 60 (fun z => ?_) (fun z => ?_)
    · exact br_t h (pk_le m 60 (fun _ => rl_new h1 z) (fun z1 => absurd z1 (by omega)))
    · exact br_t h (pk_le m 60 (fun z1 => absurd z1 (by omega)) (fun _ => rl_new (L := 60) (by decide) (by decide)))
  · exact br_f h (br_f h (br_t (by decide) (rl_new (L := 10) (by decide) (by decide))))
theorem i_vc_append {k : Nat} {u : SX} {v : SY} (I : i_Rel k u v) (hk : k + 4 ≤ 2049) (v1 : Int32) (v2 : Int32) (v3 : Int32) : wpX_append (fun r u' => wpY_append (fun r' v' => r' = r ∧ i_Rel (k + 4) u' v') v v1 v2 v3) u v1 v2 v3 := by
  obtain ⟨L, c, W, S, G, T, C, U, D, H, rfl, rfl, ok⟩ := I
  have hc := ok.2.2.1
  have hL := ok.2.1
  have rel : i_Rel (k + 4) (rl_x L c W S G T C) (rl_y L c W S G U D H) := ⟨L, c, W, S, G, T, C, U, D, H, rfl, rfl, ok⟩
  unfold wpX_append wpY_append
  dsimp only
  rcases rl_r3 v1 1 5 (by decide) (by decide) with h | ⟨h, h'⟩ | ⟨w, w1, w5, rfl⟩
  · exact br_t h (br_t h ⟨rfl, rel⟩)
  · exact br_f h (br_f h' (br_f h (br_f h' ⟨rfl, rel⟩)))
  · have a1 : ¬ nI w < 1 := nI_nlt (b := 1) w1 (by omega)
    have a2 : nI w ≤ 5 := nI_le (b := 5) w5 (by decide)
    refine br_f a1 (br_t a2 ?_)
    have hs := rl_r3 v2 0 60 (by decide) (by decide)
    rw [← or_assoc] at hs
    rcases hs with h | ⟨s, _, s60, rfl⟩
    · refine rl_xWishY h ?_
      refine br_f (by decide) ?_
      refine br_f a1 (br_t a2 ?_)
      refine rl_yWishY h ?_
      exact br_f (by decide) ⟨rfl, rel⟩
    · refine rl_xWishN s60 ?_
      refine br_t rfl ?_
      have hg := rl_r3 v3 1 5 (by decide) (by decide)
      rw [← or_assoc] at hg
      rcases hg with h | ⟨g, g1, g5, rfl⟩
      · refine rl_xWeiY h ?_
        refine br_f (by decide) ?_
        refine br_f a1 (br_t a2 ?_)
        refine rl_yWishN s60 ?_
        refine br_t rfl ?_
        refine rl_yWeiY h ?_
        exact br_f (by decide) ⟨rfl, rel⟩
      · refine rl_xWeiN g1 g5 ?_
        refine br_t rfl ?_
        refine pk_lt c 10 (fun z => ?_) (fun z => ?_)
        · have hv : vp_in (nI c) 10 := vp_in_nI z (by decide)
          refine ⟨hv, nm_r (rl_upd W w (by omega)) ⟨hv, nm_r (rl_upd S s (by omega)) ⟨hv, nm_r (rl_upd G g (by omega)) (nm_r (nI_1 c) ?_)⟩⟩⟩
          refine br_f a1 (br_t a2 ?_)
          refine rl_yWishN s60 ?_
          refine br_t rfl ?_
          refine rl_yWeiN g1 g5 ?_
          refine br_t rfl ?_
          refine pk_eq c 10 (fun z1 => absurd z1 (by omega)) (fun _ => ?_)
          refine ⟨hv, nm_r (rl_upd W w (by omega)) ⟨hv, nm_r (rl_upd S s (by omega)) ⟨hv, nm_r (rl_upd G g (by omega)) (nm_r (nI_1 c) ?_)⟩⟩⟩
          exact ⟨rfl, L, c + 1, rl_pt W c w, rl_pt S c s, rl_pt G c g, T, C, U, D, H, rfl, rfl, ok.1, hL, by omega, rl_pt_le ok.2.2.2.1 w5, rl_pt_le ok.2.2.2.2.1 s60, rl_pt_le ok.2.2.2.2.2 g5⟩
        · refine br_f a1 (br_t a2 ?_)
          refine rl_yWishN s60 ?_
          refine br_t rfl ?_
          refine rl_yWeiN g1 g5 ?_
          refine br_t rfl ?_
          exact pk_eq c 10 (fun _ => ⟨rfl, rel⟩) (fun z1 => absurd z1 (by omega))
theorem i_vc_move {k : Nat} {u : SX} {v : SY} (I : i_Rel k u v) (hk : k + 4 ≤ 2049) (v1 : Int32) (v2 : Int32) : wpX_move (fun r u' => wpY_move (fun r' v' => r' = r ∧ i_Rel (k + 4) u' v') v v1 v2) u v1 v2 := by
  obtain ⟨L, c, W, S, G, T, C, U, D, H, rfl, rfl, ok⟩ := I
  have hc := ok.2.2.1
  have hL := ok.2.1
  have rel : i_Rel (k + 4) (rl_x L c W S G T C) (rl_y L c W S G U D H) := ⟨L, c, W, S, G, T, C, U, D, H, rfl, rfl, ok⟩
  unfold wpX_move wpY_move
  dsimp only
  have hi := pk_ix v1 (n := c) (by omega)
  rw [← or_assoc] at hi
  rcases hi with h | ⟨j, hj, rfl⟩
  · refine rl_xBadY h ?_
    refine br_f (by decide) ?_
    refine rl_yBadY h ?_
    exact br_f (by decide) ⟨rfl, rel⟩
  · refine rl_xBadN hj hc ?_
    refine br_t rfl ?_
    have hs := rl_r3 v2 0 60 (by decide) (by decide)
    rw [← or_assoc] at hs
    rcases hs with h | ⟨s, s1, s60, rfl⟩
    · refine rl_xWishY h ?_
      refine br_f (by decide) ?_
      refine rl_yBadN hj hc ?_
      refine br_t rfl ?_
      refine rl_yWishY h ?_
      exact br_f (by decide) ⟨rfl, rel⟩
    · have hv : vp_in (nI j) 10 := vp_in_nI (by omega) (by decide)
      refine rl_xWishN s60 ?_
      refine br_t rfl ⟨hv, nm_r (rl_At S (by omega)) ⟨hv, nm_r (rl_upd S s (by omega)) ?_⟩⟩
      refine rl_yBadN hj hc ?_
      refine br_t rfl ?_
      refine rl_yWishN s60 ?_
      refine br_t rfl ⟨hv, nm_r (rl_At S (by omega)) ⟨hv, nm_r (rl_upd S s (by omega)) ?_⟩⟩
      exact ⟨rfl, L, c, W, rl_pt S j s, G, T, C, U, D, H, rfl, rfl, ok.1, hL, hc, ok.2.2.2.1, rl_pt_le ok.2.2.2.2.1 s60, ok.2.2.2.2.2⟩
theorem i_vc_reweigh {k : Nat} {u : SX} {v : SY} (I : i_Rel k u v) (hk : k + 4 ≤ 2049) (v1 : Int32) (v2 : Int32) : wpX_reweigh (fun r u' => wpY_reweigh (fun r' v' => r' = r ∧ i_Rel (k + 4) u' v') v v1 v2) u v1 v2 := by
  obtain ⟨L, c, W, S, G, T, C, U, D, H, rfl, rfl, ok⟩ := I
  have hc := ok.2.2.1
  have hL := ok.2.1
  have rel : i_Rel (k + 4) (rl_x L c W S G T C) (rl_y L c W S G U D H) := ⟨L, c, W, S, G, T, C, U, D, H, rfl, rfl, ok⟩
  unfold wpX_reweigh wpY_reweigh
  dsimp only
  have hi := pk_ix v1 (n := c) (by omega)
  rw [← or_assoc] at hi
  rcases hi with h | ⟨j, hj, rfl⟩
  · refine rl_xBadY h ?_
    refine br_f (by decide) ?_
    refine rl_yBadY h ?_
    exact br_f (by decide) ⟨rfl, rel⟩
  · refine rl_xBadN hj hc ?_
    refine br_t rfl ?_
    have hs := rl_r3 v2 1 5 (by decide) (by decide)
    rw [← or_assoc] at hs
    rcases hs with h | ⟨s, s1, s60, rfl⟩
    · refine rl_xWeiY h ?_
      refine br_f (by decide) ?_
      refine rl_yBadN hj hc ?_
      refine br_t rfl ?_
      refine rl_yWeiY h ?_
      exact br_f (by decide) ⟨rfl, rel⟩
    · have hv : vp_in (nI j) 10 := vp_in_nI (by omega) (by decide)
      refine rl_xWeiN s1 s60 ?_
      refine br_t rfl ⟨hv, nm_r (rl_At G (by omega)) ⟨hv, nm_r (rl_upd G s (by omega)) ?_⟩⟩
      refine rl_yBadN hj hc ?_
      refine br_t rfl ?_
      refine rl_yWeiN s1 s60 ?_
      refine br_t rfl ⟨hv, nm_r (rl_At G (by omega)) ⟨hv, nm_r (rl_upd G s (by omega)) ?_⟩⟩
      exact ⟨rfl, L, c, W, S, rl_pt G j s, T, C, U, D, H, rfl, rfl, ok.1, hL, hc, ok.2.2.2.1, ok.2.2.2.2.1, rl_pt_le ok.2.2.2.2.2 s60⟩
theorem i_vc_exchange {k : Nat} {u : SX} {v : SY} (I : i_Rel k u v) (hk : k + 4 ≤ 2049) (v1 : Int32) : wpX_exchange (fun r u' => wpY_exchange (fun r' v' => r' = r ∧ i_Rel (k + 4) u' v') v v1) u v1 := by
  obtain ⟨L, c, W, S, G, T, C, U, D, H, rfl, rfl, ok⟩ := I
  have hc := ok.2.2.1
  have hL := ok.2.1
  have rel : i_Rel (k + 4) (rl_x L c W S G T C) (rl_y L c W S G U D H) := ⟨L, c, W, S, G, T, C, U, D, H, rfl, rfl, ok⟩
  unfold wpX_exchange wpY_exchange
  dsimp only
  by_cases h0 : v1 < 0
  · exact br_t h0 (br_t h0 ⟨rfl, rel⟩)
  · by_cases h1 : v1 < nI c - 1
    · obtain ⟨j, hj, rfl⟩ := nI_of h0
      have hjc := rl_exl h1 hj hc
      have hv : vp_in (nI j) 10 := vp_in_nI (by omega) (by decide)
      have hv1 : vp_in (nI j + 1) 10 := pk_in (j + 1) 10 (by omega) (nI_1 j)
      refine br_f h0 (br_t h1 ?_)
      refine rl_xSw_widths (by omega) ?_
      refine rl_xSw_wishes (by omega) ?_
      refine rl_xSw_weights (by omega) ?_
      refine br_f h0 (br_t h1 ?_)
      refine ⟨hv, nm_r (rl_At W (by omega)) ⟨hv, nm_r (rl_At S (by omega)) ⟨hv, nm_r (rl_At G (by omega)) ?_⟩⟩⟩
      refine ⟨hv1, hv, nm_r (rl_sA W (by omega)) ⟨hv1, hv, nm_r (rl_sA S (by omega)) ⟨hv1, hv, nm_r (rl_sA G (by omega)) ?_⟩⟩⟩
      refine ⟨hv1, nm_r (rl_sB W (by omega)) ⟨hv1, nm_r (rl_sB S (by omega)) ⟨hv1, nm_r (rl_sB G (by omega)) ?_⟩⟩⟩
      exact ⟨rfl, L, c, rl_sw W j, rl_sw S j, rl_sw G j, T, C, U, D, H, rfl, rfl, ok.1, hL, hc, rl_sw_le ok.2.2.2.1, rl_sw_le ok.2.2.2.2.1, rl_sw_le ok.2.2.2.2.2⟩
    · exact br_f h0 (br_f h1 (br_f h0 (br_f h1 ⟨rfl, rel⟩)))
theorem i_vc_drop {k : Nat} {u : SX} {v : SY} (I : i_Rel k u v) (hk : k + 4 ≤ 2049) : wpX_drop (fun r u' => wpY_drop (fun r' v' => r' = r ∧ i_Rel (k + 4) u' v') v) u := by
  obtain ⟨L, c, W, S, G, T, C, U, D, H, rfl, rfl, ok⟩ := I
  have hc := ok.2.2.1
  have hL := ok.2.1
  refine pk_eq c 0 (fun z => ?_) (fun z => ?_)
  · exact pk_eq c 0 (fun _ => ⟨rfl, ⟨L, c, W, S, G, T, C, U, D, H, rfl, rfl, ok⟩⟩) (fun z1 => absurd z z1)
  · obtain ⟨b, rfl⟩ : ∃ b, c = b + 1 := ⟨c - 1, by omega⟩
    refine nm_r (nI_pred b) ?_
    refine pk_eq (b + 1) 0 (fun z1 => absurd z1 z) (fun _ => ?_)
    refine nm_r (nI_pred b) ?_
    exact ⟨rfl, L, b, W, S, G, T, C, U, D, H, rfl, rfl, ok.1, hL, by omega, ok.2.2.2⟩
theorem i_vc_cost {k : Nat} {u : SX} {v : SY} (I : i_Rel k u v) (hk : k + 4 ≤ 2049) : wpX_cost (fun r u' => wpY_cost (fun r' v' => r' = r ∧ i_Rel (k + 4) u' v') v) u := by
  obtain ⟨L, c, W, S, G, T, C, U, D, H, rfl, rfl, ok⟩ := I
  have hc := ok.2.2.1
  have hL := ok.2.1
  unfold wpX_cost wpY_cost
  refine rl_xCost ok (Nat.le_refl c) (fun z => ?_) (fun T' hp hT => ?_)
  · refine rl_yCost ok (Nat.le_refl c) (fun _ => ?_) (fun U' hp => absurd hp (by omega))
    exact ⟨rfl, ⟨L, c, W, S, G, T, C, U, D, H, rfl, rfl, ok⟩⟩
  · refine rl_yCost ok (Nat.le_refl c) (fun z => absurd z (by omega)) (fun U' _ => ?_)
    exact ⟨rfl, L, c, W, S, G, T', C, U', D, H, rfl, rfl, ok⟩
theorem i_vc_costOf {k : Nat} {u : SX} {v : SY} (I : i_Rel k u v) (hk : k + 4 ≤ 2049) (v1 : Int32) : wpX_costOf (fun r u' => wpY_costOf (fun r' v' => r' = r ∧ i_Rel (k + 4) u' v') v v1) u v1 := by
  obtain ⟨L, c, W, S, G, T, C, U, D, H, rfl, rfl, ok⟩ := I
  have hc := ok.2.2.1
  have hL := ok.2.1
  have rel : i_Rel (k + 4) (rl_x L c W S G T C) (rl_y L c W S G U D H) := ⟨L, c, W, S, G, T, C, U, D, H, rfl, rfl, ok⟩
  by_cases h0 : v1 < 0
  · exact br_t h0 (br_t h0 ⟨rfl, rel⟩)
  · obtain ⟨m, hm, rfl⟩ := nI_of h0
    refine br_f h0 ?_
    refine pk_le m c (fun z => ?_) (fun z => ?_)
    · refine rl_xCost ok z (fun z0 => ?_) (fun T' hp hT => ?_)
      · refine rl_yCost ok z (fun _ => ?_) (fun U' hp => absurd hp (by omega))
        exact ⟨rfl, rel⟩
      · refine rl_yCost ok z (fun z0 => absurd z0 (by omega)) (fun U' _ => ?_)
        exact ⟨rfl, L, c, W, S, G, T', C, U', D, H, rfl, rfl, ok⟩
    · exact br_f h0 (pk_le m c (fun z1 => absurd z1 (by omega)) (fun _ => ⟨rfl, rel⟩))
theorem i_vc_leftmost {k : Nat} {u : SX} {v : SY} (I : i_Rel k u v) (hk : k + 4 ≤ 2049) (v1 : Int32) : wpX_leftmost (fun r u' => wpY_leftmost (fun r' v' => r' = r ∧ i_Rel (k + 4) u' v') v v1) u v1 := by
  obtain ⟨L, c, W, S, G, T, C, U, D, H, rfl, rfl, ok⟩ := I
  have hc := ok.2.2.1
  have hL := ok.2.1
  have rel : i_Rel (k + 4) (rl_x L c W S G T C) (rl_y L c W S G U D H) := ⟨L, c, W, S, G, T, C, U, D, H, rfl, rfl, ok⟩
  unfold wpX_leftmost
  dsimp only
  have hi := pk_ix v1 (n := c) (by omega)
  rw [← or_assoc] at hi
  rcases hi with h | ⟨j, hj, rfl⟩
  · refine rl_xBadY h ?_
    refine br_f (by decide) ?_
    unfold wpY_leftmost
    dsimp only
    refine rl_yBadY h ?_
    exact br_f (by decide) ⟨rfl, rel⟩
  · refine rl_xBadN hj hc ?_
    refine br_t rfl ?_
    have ec := rl_pr (n := c) (by omega)
    refine rl_xCost ok (Nat.le_refl c) (fun z => absurd z (by omega)) (fun T' hp hT => ?_)
    have hle := rl_lm_le (rl_U (rl_o L W S G) W (c - 1)) 61
    have rel' : ∀ U' H', i_Rel (k + 4) (rl_x L c W S G T' C) (rl_y L c W S G U' D H') := fun U' H' => ⟨L, c, W, S, G, T', C, U', D, H', rfl, rfl, ok⟩
    by_cases hv : rl_lm (rl_U (rl_o L W S G) W (c - 1)) 61 = 1000000
    · refine br_t (by rw [hv]; exact rl_an_n) ?_
      unfold wpY_leftmost
      dsimp only
      refine rl_yBadN hj hc ?_
      refine br_t rfl ?_
      refine rl_yUp ok (Nat.le_refl c) (fun U' hU => ?_)
      refine rl_yLeastUp (f := rl_U (rl_o L W S G) W (c - 1)) ec (by omega) (hU (c - 1) (by omega)) (fun x => rl_U_le _ _ _ _) ?_
      exact br_t (by rw [hv]; rfl) ⟨rfl, rel' U' H⟩
    · have hv' : rl_lm (rl_U (rl_o L W S G) W (c - 1)) 61 < 1000000 := by omega
      have e0 : c - 1 - (c - 1) = 0 := by omega
      refine br_f (by rw [rl_an_y hv]; exact rl_nn (by omega)) ?_
      refine rl_xEdgeM (f := rl_U (rl_o L W S G) W (c - 1)) ec (by omega) (hT (c - 1) (by omega)) 60 rfl (by omega) ?_
      have e2 : nI c - 2 = rl_dn (c - 1) := by
        obtain ⟨b, rfl⟩ : ∃ b, c = b + 1 := ⟨c - 1, by omega⟩
        exact rl_dn_2 b
      refine nm_r e2 ?_
      refine ⟨c - 1 - j + 1, ?_⟩
      have hY0 : wpY_leftmost (fun r' v' => r' = nI (rl_ed (rl_o L W S G) W c (c - 1 - j)) ∧ i_Rel (k + 4) (rl_x L c W S G T' C) v') (rl_y L c W S G U D H) (nI j) := by
        unfold wpY_leftmost
        dsimp only
        refine rl_yBadN hj hc ?_
        refine br_t rfl ?_
        refine rl_yUp ok (Nat.le_refl c) (fun U' hU => ?_)
        refine rl_yLeastUp (f := rl_U (rl_o L W S G) W (c - 1)) ec (by omega) (hU (c - 1) (by omega)) (fun x => rl_U_le _ _ _ _) ?_
        refine br_f (fun z => hv ((nI_eq (b := 1000000) (by omega) (by decide)).mp z)) ?_
        refine nm_r ec ?_
        refine ⟨c - 1 - j + 2, ?_⟩
        have hY := rl_yLeft (D := D) (j := j) ok hU hv' (post := fun r' v' => r' = nI (rl_ed (rl_o L W S G) W c (c - 1 - j)) ∧ i_Rel (k + 4) (rl_x L c W S G T' C) v') (fun H' => ⟨rfl, rel' U' H'⟩) (c - 1 - j) (c - 1) H (by omega) (by omega)
        rw [e0] at hY
        exact hY
      have hX := rl_xLeft (C := C) (j := j) ok hT hv' (post := fun r u' => wpY_leftmost (fun r' v' => r' = r ∧ i_Rel (k + 4) u' v') (rl_y L c W S G U D H) (nI j)) hY0 (c - 1 - j) (c - 1) (by omega) (by omega)
      rw [e0] at hX
      exact hX
theorem i_vc_costAt {k : Nat} {u : SX} {v : SY} (I : i_Rel k u v) (hk : k + 4 ≤ 2049) (v1 : Int32) (v2 : Int32) : wpX_costAt (fun r u' => wpY_costAt (fun r' v' => r' = r ∧ i_Rel (k + 4) u' v') v v1 v2) u v1 v2 := by
  obtain ⟨L, c, W, S, G, T, C, U, D, H, rfl, rfl, ok⟩ := I
  have hc := ok.2.2.1
  have hL := ok.2.1
  have rel : i_Rel (k + 4) (rl_x L c W S G T C) (rl_y L c W S G U D H) := ⟨L, c, W, S, G, T, C, U, D, H, rfl, rfl, ok⟩
  unfold wpX_costAt
  dsimp only
  have hi := pk_ix v1 (n := c) (by omega)
  rw [← or_assoc] at hi
  rcases hi with h | ⟨j, hj, rfl⟩
  · refine rl_xBadY h ?_
    refine br_f (by decide) ?_
    unfold wpY_costAt
    dsimp only
    refine rl_yBadY h ?_
    exact br_f (by decide) ⟨rfl, rel⟩
  · refine rl_xBadN hj hc ?_
    refine br_t rfl ?_
    have hv : vp_in (nI j) 10 := vp_in_nI (by omega) (by decide)
    have hw := ok.2.2.2.1 j
    have hL1 := ok.1
    by_cases h0 : v2 < 0
    · refine br_t h0 ?_
      unfold wpY_costAt
      dsimp only
      refine rl_yBadN hj hc ?_
      refine br_t rfl ?_
      exact br_t h0 ⟨rfl, rel⟩
    · obtain ⟨x, hx, rfl⟩ := nI_of h0
      have eL : nI L - rl_A W (nI j).toNatClampNeg = nI (L - W j) := by rw [rl_At W (by omega), pk_sub (by omega)]
      refine br_f h0 ⟨hv, ?_⟩
      refine pk_le x (L - W j) (fun z => ?_) (fun z => ?_) rfl eL
      · have hp := rl_pin (o := rl_o L W S G) (o' := rl_q L W S G j x) (W := W) (c := c) (p := j) (e := x) (rl_o_b ok) hj hc (by omega) (by rw [rl_o_y (by omega)]; exact rl_w_b ok (by omega)) (fun i hi y => rl_q_n hi y) rl_q_e (fun y hy => rl_q_o hy)
        refine rl_xLeast ok (p := j) (e := x) (Nat.le_refl c) (fun i hi => nI_eq (by omega) (by omega)) (by omega) (fun _ => by omega) (fun z0 => absurd z0 (by omega)) (fun T' _ hT => ?_)
        refine rl_yAt ok hj (by omega) (fun U' D' r h1 h2 => ?_)
        refine ⟨?_, L, c, W, S, G, T', C, U', D', H, rfl, rfl, ok⟩
        obtain ⟨p1, p2⟩ := hp
        by_cases hz : rl_lm (rl_U (rl_q L W S G j x) W (c - 1)) 61 = 1000000
        · rw [h1 (p1.mp hz), hz, rl_an_n]
        · have hz' := fun q => hz (p1.mpr q)
          rw [h2 hz', p2 hz', rl_an_y hz, pk_sub (by omega), Nat.add_sub_cancel]
      · by_cases h60 : x ≤ 60
        · refine rl_yAt ok hj h60 (fun U' D' r h1 _ => ?_)
          refine ⟨h1 ?_, L, c, W, S, G, T, C, U', D', H, rfl, rfl, ok⟩
          have := rl_U_eq (rl_o L W S G) W j x
          rw [rl_o_n (by omega)] at this
          omega
        · unfold wpY_costAt
          dsimp only
          refine rl_yBadN hj hc ?_
          refine br_t rfl ?_
          exact br_f h0 (pk_le x 60 (fun z1 => absurd z1 h60) (fun _ => ⟨rfl, rel⟩))
theorem i_vc_room {k : Nat} {u : SX} {v : SY} (I : i_Rel k u v) (hk : k + 4 ≤ 2049) : wpX_room (fun r => wpY_room (fun r' => r' = r ∧ i_Rel (k + 4) u v) v) u := by
  obtain ⟨L, c, W, S, G, T, C, U, D, H, rfl, rfl, ok⟩ := I
  have hc := ok.2.2.1
  have hL := ok.2.1
  exact rl_xRoom ok (rl_yRoom ok ⟨rfl, ⟨L, c, W, S, G, T, C, U, D, H, rfl, rfl, ok⟩⟩)
theorem i_vc_content {k : Nat} {u : SX} {v : SY} (I : i_Rel k u v) (hk : k + 4 ≤ 2049) : wpX_content (fun r u' => wpY_content (fun r' => r' = r ∧ i_Rel (k + 4) u' v) v) u := by
  obtain ⟨L, c, W, S, G, T, C, U, D, H, rfl, rfl, ok⟩ := I
  have hc := ok.2.2.1
  have hL := ok.2.1
  refine rl_xContent ok (fun q C' hM => ?_)
  refine rl_yContent ok (fun q' hM' => ?_)
  exact ⟨by rw [rl_M_u hM' hM], L, c, W, S, G, T, C', U, D, H, rfl, rfl, ok⟩

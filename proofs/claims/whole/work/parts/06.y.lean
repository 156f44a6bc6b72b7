/-! the reference's own methods -/
section
variable {L c : Nat} {W S G : Nat → Nat} {U D H : Nat → Int32}
theorem rl_yBadY {post : Int32 → Prop} {v : Int32} (h : v < 0 ∨ nI c ≤ v) (hp : post 1) : wpY_badCell post (rl_y L c W S G U D H) v := by
  by_cases h0 : v < 0
  · exact br_t h0 hp
  · have h1 : ¬ v < nI c := Int32.not_lt.mpr (h.resolve_left h0)
    exact br_f h0 (br_f h1 hp)
theorem rl_yBadN {post : Int32 → Prop} {j : Nat} (hj : j < c) (hc : c ≤ 10) (hp : post 0) : wpY_badCell post (rl_y L c W S G U D H) (nI j) :=
  br_f (nI_pos (by omega)) (br_t (nI_lt hj (by omega)) hp)
theorem rl_yOwn {post : Int32 → Prop} (hk : rl_ok L c W S G) {i x : Nat} (hi : i < 10) (hx : x < 61) (h : post (nI (rl_o L W S G i x))) : wpY_own post (rl_y L c W S G U D H) (nI i) (nI x) := by
  have hS := hk.2.2.2.2.1 i
  have hw := hk.2.2.2.1 i
  have hL := hk.2.1
  have eW : nI x + rl_A W (nI i).toNatClampNeg = nI (x + W i) := by rw [rl_At W (by omega), nI_add]
  have eS := rl_At S (i := i) (by omega)
  have eG := rl_At G (i := i) (by omega)
  have hv : vp_in (nI i) 10 := vp_in_nI hi (by decide)
  refine br_f (nI_pos (by omega)) ⟨hv, ?_⟩
  refine pk_le (x + W i) L (fun z => ?_) (fun z => ?_) eW
  · rw [rl_o_y z] at h
    refine ⟨hv, ?_⟩
    refine pk_le (S i) x (fun z => ⟨hv, ?_⟩) (fun z => ⟨hv, ?_⟩) eS
    · have e3 : rl_A G (nI i).toNatClampNeg * (nI x - rl_A S (nI i).toNatClampNeg) = nI (rl_w S G i x) := by
        rw [eG, eS, pk_sub z, pk_mul]
        unfold rl_w
        rw [show S i - x = 0 by omega, Nat.zero_add]
      refine ⟨hv, ?_⟩
      rw [e3]; exact h
    · have e3 : rl_A G (nI i).toNatClampNeg * (rl_A S (nI i).toNatClampNeg - nI x) = nI (rl_w S G i x) := by
        rw [eG, eS, pk_sub (by omega), pk_mul]
        unfold rl_w
        rw [show x - S i = 0 by omega, Nat.add_zero]
      refine ⟨hv, ?_⟩
      rw [e3]; exact h
  · rw [rl_o_n z] at h; exact h
theorem rl_yMin {post : Int32 → Prop} {a b : Nat} {xa xb : Int32} (ea : xa = nI a) (eb : xb = nI b) (ha : a < 2 ^ 31) (hb : b < 2 ^ 31) (h : post (nI (min a b))) : wpY_least post (rl_y L c W S G U D H) xa xb := by
  subst ea
  subst eb
  refine pk_le b a (fun z => ?_) (fun z => ?_)
  · rw [Nat.min_eq_right z] at h; exact h
  · rw [Nat.min_eq_left (Nat.le_of_lt z)] at h; exact h
theorem rl_ySum {post : Int32 → Prop} {a b : Nat} {xa xb : Int32} (ea : xa = nI a) (eb : xb = nI b) (hab : a + b < 2 ^ 31) (h : post (nI (min (a + b) 1000000))) : wpY_sum post (rl_y L c W S G U D H) xa xb := by
  subst ea
  subst eb
  unfold wpY_sum
  exact rl_yMin (a := a + b) (b := 1000000) (nI_add a b) rfl hab (by omega) h
theorem rl_yUp (hk : rl_ok L c W S G) {post : SY → Prop} {n : Nat} (hn : n ≤ c)
    (h : ∀ U' : Nat → Int32, (∀ i, i < n → ∀ x, x < 61 → U' (i * 61 + x) = nI (rl_U (rl_o L W S G) W i x)) → post (rl_y L c W S G U' D H)) :
    wpY_fillUp post (rl_y L c W S G U D H) (nI n) := by
  have hc := hk.2.2.1
  refine loop_0 (fun m i (U1 : Nat → Int32) => wY_fillUp_2 post (nI n) (nI L) (nI c) m (nI i) (rl_A W) (rl_A S) (rl_A G) U1 D H)
    (fun i U1 => ∀ a, a < i → ∀ x, x < 61 → U1 (a * 61 + x) = nI (rl_U (rl_o L W S G) W a x)) n U (fun a ha => absurd ha (Nat.not_lt_zero a)) ?_ ?_
  · intro m U1 hI
    exact pk_le n n (fun _ => h U1 hI) (fun z => absurd z (by omega))
  · intro m i U1 hi hI k
    refine pk_le n i (fun z => absurd z (by omega)) (fun _ => ?_)
    have inner : ∀ s : Int32, s = nI (rl_b (rl_o L W S G) W i 0) → ∃ n1, wY_fillUp_21 post (wY_fillUp_2 post (nI n) (nI L) (nI c) m) (nI n) (nI i) (nI L) (nI c) n1 s 0 (rl_A W) (rl_A S) (rl_A G) U1 D H := by
      intro s es
      subst es
      refine loop_0 (fun n1 x (U2 : Nat → Int32) => wY_fillUp_21 post (wY_fillUp_2 post (nI n) (nI L) (nI c) m) (nI n) (nI i) (nI L) (nI c) n1 (nI (rl_b (rl_o L W S G) W i x)) (nI x) (rl_A W) (rl_A S) (rl_A G) U2 D H)
        (fun x U2 => (∀ k, k < i * 61 → U2 k = U1 k) ∧ ∀ y, y < x → U2 (i * 61 + y) = nI (rl_U (rl_o L W S G) W i y)) 61 U1 ⟨fun _ _ => rfl, fun y hy => absurd hy (Nat.not_lt_zero y)⟩ ?_ ?_
      · intro n1 U2 hJ
        refine pk_le 61 61 (fun _ => ?_) (fun z => absurd z (by omega))
        refine nm_r (nI_1 i) ?_
        refine k U2 (fun a ha x hx => ?_)
        by_cases ea : a = i
        · subst ea; exact hJ.2 x hx
        · have : a * 61 + x < i * 61 := by omega
          rw [hJ.1 _ this]; exact hI a (by omega) x hx
      · intro n1 x U2 hx hJ k1
        refine pk_le 61 x (fun z => absurd z (by omega)) (fun _ => ?_)
        have hob := rl_o_b hk i x
        have hB := rl_B_le (rl_o L W S G) W i x
        have join : ∀ m1, m1 = rl_B (rl_o L W S G) W i x → wY_fillUp_74 post (wY_fillUp_2 post (nI n) (nI L) (nI c) m) (wY_fillUp_21 post (wY_fillUp_2 post (nI n) (nI L) (nI c) m) (nI n) (nI i) (nI L) (nI c) n1) (nI n) (nI i) (nI m1) (nI x) (nI L) (nI c) (rl_A W) (rl_A S) (rl_A G) U2 D H := by
          intro m1 em
          subst em
          refine rl_yOwn hk (by omega) hx ?_
          refine rl_ySum rfl rfl (by omega) ?_
          refine ⟨pk_in (i * 61 + x) 610 (by omega) (rl_ix i x), ?_⟩
          refine nm_r (e' := upd U2 (i * 61 + x) (nI (rl_U (rl_o L W S G) W i x))) (by rw [rl_ix, nI_clamp (by omega), rl_U_eq]) ?_
          refine nm_r (nI_1 x) ?_
          rw [rl_B_b]
          refine k1 _ ⟨fun k hk => (pk_un (by omega)).trans (hJ.1 k hk), fun y hy => ?_⟩
          by_cases ey : y = x
          · subst ey; exact pk_us
          · exact (pk_un (by omega)).trans (hJ.2 y (by omega))
        by_cases hz : i = 0
        · refine br_t (by rw [hz]; rfl) ?_
          refine br_t (by decide) ?_
          refine join _ ?_
          subst hz
          rfl
        · obtain ⟨j, rfl⟩ : ∃ j, i = j + 1 := ⟨i - 1, by omega⟩
          have ej : nI (j + 1) - 1 = nI j := nI_pred j
          have hw := hk.2.2.2.1 j
          have e : nI x - rl_A W (nI (j + 1) - 1).toNatClampNeg = nI x - nI (W j) := by rw [ej, rl_At W (by omega)]
          refine br_f (nI_ne0 (by omega) (by omega)) ⟨pk_in j 10 (by omega) ej, ?_⟩
          have go : ∀ z0 : Int32, z0 = nI x - nI (W j) → wY_fillUp_47 post (wY_fillUp_2 post (nI n) (nI L) (nI c) m) (wY_fillUp_21 post (wY_fillUp_2 post (nI n) (nI L) (nI c) m) (nI n) (nI (j + 1)) (nI L) (nI c) n1) (nI n) (nI (j + 1)) (nI (rl_b (rl_o L W S G) W (j + 1) x)) (nI x) z0 (nI L) (nI c) (rl_A W) (rl_A S) (rl_A G) U2 D H := by
            intro z0 ez
            by_cases hz : W j ≤ x
            · have e2 : z0 = nI (x - W j) := by rw [ez, pk_sub hz]
              subst e2
              have e3 : (nI (j + 1) - 1) * 61 + nI (x - W j) = nI (j * 61 + (x - W j)) := rl_ix1 j (x - W j)
              have e4 : U2 ((nI (j + 1) - 1) * 61 + nI (x - W j)).toNatClampNeg = nI (rl_U (rl_o L W S G) W j (x - W j)) := by
                rw [e3, nI_clamp (by omega), hJ.1 _ (by omega)]
                exact hI j (by omega) _ (by omega)
              have hb := rl_b_le (rl_o L W S G) W (j + 1) x
              have hu := rl_U_le (rl_o L W S G) W j (x - W j)
              refine br_f (nI_pos (by omega)) ⟨pk_in (j * 61 + (x - W j)) 610 (by omega) e3, ?_⟩
              refine rl_yMin rfl e4 (by omega) (by omega) ?_
              refine join _ ?_
              rw [rl_B_b, rl_b_y hz]
            · refine br_t (by rw [ez]; exact pk_sneg (by omega) (by omega)) ?_
              refine join _ ?_
              rw [rl_B_b, rl_b_n (by omega)]
          exact go _ e
    refine pk_eq i 0 (fun z => inner _ ?_) (fun z => inner _ ?_)
    · subst z; rfl
    · obtain ⟨j, rfl⟩ : ∃ j, i = j + 1 := ⟨i - 1, by omega⟩
      rw [rl_b_s, Nat.zero_sub]
      rfl
theorem rl_yLeastUp {f : Nat → Nat} {post : Int32 → Prop} {i : Nat} {xi : Int32} (ei : xi = nI i) (hi : i < 10) (hf : ∀ x, x < 61 → U (i * 61 + x) = nI (f x)) (hb : ∀ x, f x ≤ 1000000) (h : post (nI (rl_lm f 61))) : wpY_leastUp post (rl_y L c W S G U D H) xi := by
  subst ei
  refine loop_0 (fun n x (_ : Unit) => wY_leastUp_5 post (nI i) (nI L) (nI c) (rl_A W) (rl_A S) (rl_A G) U D H n (nI (rl_lm f x)) (nI x)) (fun _ _ => True) 61 () trivial ?_ ?_
  · intro n _ _
    exact pk_le 61 61 (fun _ => h) (fun z => absurd z (by omega))
  · intro n x _ hx _ k
    refine pk_le 61 x (fun z => absurd z (by omega)) (fun _ => ?_)
    have e1 : U (nI i * 61 + nI x).toNatClampNeg = nI (f x) := by rw [rl_ix, nI_clamp (by omega)]; exact hf x hx
    refine ⟨pk_in (i * 61 + x) 610 (by omega) (rl_ix i x), ?_⟩
    have := hb x
    have := rl_lm_le f x
    refine rl_yMin rfl e1 (by omega) (by omega) ?_
    rw [← rl_lm_s]
    refine nm_r (nI_1 x) ?_
    exact k () trivial
theorem rl_yDown (hk : rl_ok L c W S G) {post : SY → Prop}
    (h : ∀ D' : Nat → Int32, (∀ j, j < c → ∀ x, x < 61 → D' ((c - 1 - j) * 61 + x) = nI (rl_D (rl_o L W S G) W c j x)) → post (rl_y L c W S G U D' H)) :
    wpY_fillDown post (rl_y L c W S G U D H) := by
  have hc := hk.2.2.1
  have key : wY_fillDown_7 post (nI L) (nI c) (c + 1) (rl_dn c) (rl_A W) (rl_A S) (rl_A G) U D H := by
    refine pk_loopD (fun m a (D1 : Nat → Int32) => wY_fillDown_7 post (nI L) (nI c) m (rl_dn a) (rl_A W) (rl_A S) (rl_A G) U D1 H)
      (fun a D1 => a ≤ c ∧ ∀ j, a + j < c → ∀ x, x < 61 → D1 ((c - 1 - j) * 61 + x) = nI (rl_D (rl_o L W S G) W c j x)) ?_ ?_ c D ⟨Nat.le_refl _, fun j hj => absurd hj (by omega)⟩
    · intro m D1 hI
      exact br_t rl_dn_0 (h D1 (fun j hj => hI.2 j (by omega)))
    · intro m a D1 hI k
      obtain ⟨ha, hI⟩ := hI
      rw [rl_dn_s]
      refine br_f (nI_pos (by omega)) ?_
      have hw := hk.2.2.2.1 a
      have hv : vp_in (nI a) 10 := vp_in_nI (by omega) (by decide)
      have eW := rl_At W (i := a) (by omega)
      have ecj : c - 1 - (c - 1 - a) = a := by omega
      have ec : nI c - 1 = nI (c - 1) := by
        obtain ⟨c1, rfl⟩ : ∃ c1, c = c1 + 1 := ⟨c - 1, by omega⟩
        rw [nI_pred, Nat.add_sub_cancel]
      have inner : ∀ s : Int32, s = nI (rl_R (rl_o L W S G) W c (c - 1 - a) 61) → ∃ n1, wY_fillDown_31 post (wY_fillDown_7 post (nI L) (nI c) m) (nI a) (nI L) (nI c) n1 s 60 (rl_A W) (rl_A S) (rl_A G) U D1 H := by
        intro s es
        subst es
        refine ⟨62, pk_loopD (fun n1 b (D2 : Nat → Int32) => wY_fillDown_31 post (wY_fillDown_7 post (nI L) (nI c) m) (nI a) (nI L) (nI c) n1 (nI (rl_R (rl_o L W S G) W c (c - 1 - a) b)) (rl_dn b) (rl_A W) (rl_A S) (rl_A G) U D2 H)
          (fun b D2 => b ≤ 61 ∧ (∀ k, (a + 1) * 61 ≤ k → D2 k = D1 k) ∧ ∀ x, b ≤ x → x < 61 → D2 (a * 61 + x) = nI (rl_D (rl_o L W S G) W c (c - 1 - a) x)) ?_ ?_ 61 D1 ⟨Nat.le_refl _, fun _ _ => rfl, fun x h1 h2 => absurd h1 (by omega)⟩⟩
        · intro n1 D2 hJ
          refine br_t rl_dn_0 ?_
          refine nm_e ?_
          refine k D2 ⟨by omega, fun j hj x hx => ?_⟩
          by_cases ej : j = c - 1 - a
          · subst ej; rw [ecj]; exact hJ.2.2 x (Nat.zero_le _) hx
          · rw [hJ.2.1 _ (by have : a + 1 ≤ c - 1 - j := by omega
                             have := Nat.mul_le_mul_right 61 this
                             omega)]
            exact hI j (by omega) x hx
        · intro n1 b D2 hJ k1
          obtain ⟨hb, hJ1, hJ2⟩ := hJ
          rw [rl_dn_s]
          refine br_f (nI_pos (by omega)) ?_
          refine ⟨hv, ?_⟩
          have hob := rl_o_b hk a b
          have hR := rl_R_le (rl_o L W S G) W c (c - 1 - a) b
          have eb : nI b + rl_A W (nI a).toNatClampNeg = nI (b + W a) := by rw [eW, nI_add]
          refine nm_r eb ?_
          have join : ∀ m1, m1 = rl_R (rl_o L W S G) W c (c - 1 - a) b → wY_fillDown_82 post (wY_fillDown_7 post (nI L) (nI c) m) (wY_fillDown_31 post (wY_fillDown_7 post (nI L) (nI c) m) (nI a) (nI L) (nI c) n1) (nI a) (nI m1) (nI b) (nI L) (nI c) (rl_A W) (rl_A S) (rl_A G) U D2 H := by
            intro m1 em
            subst em
            refine rl_yOwn hk (by omega) (by omega) ?_
            refine rl_ySum rfl rfl (by omega) ?_
            refine ⟨pk_in (a * 61 + b) 610 (by omega) (rl_ix a b), ?_⟩
            have eD : min (rl_R (rl_o L W S G) W c (c - 1 - a) b + rl_o L W S G a b) 1000000 = rl_D (rl_o L W S G) W c (c - 1 - a) b := by rw [rl_D_eq, ecj]
            refine nm_r (e' := upd D2 (a * 61 + b) (nI (rl_D (rl_o L W S G) W c (c - 1 - a) b))) (by rw [rl_ix, nI_clamp (by omega), eD]) ?_
            refine nm_e ?_
            refine k1 _ ⟨by omega, fun k hk => (pk_un (by omega)).trans (hJ1 k hk), fun x h1 h2 => ?_⟩
            by_cases ex : x = b
            · subst ex; exact pk_us
            · exact (pk_un (by omega)).trans (hJ2 x (by omega) h2)
          by_cases hl : a + 1 = c
          · have e0 : c - 1 - a = 0 := by omega
            refine pk_le (c - 1) a (fun _ => join _ ?_) (fun z => absurd z (by omega)) ec
            rw [e0]; rfl
          · obtain ⟨j, hj⟩ : ∃ j, c - 1 - a = j + 1 := ⟨c - 1 - (a + 1), by omega⟩
            have ea : c - 1 - (j + 1) = a := by omega
            have eaj : c - 1 - j = a + 1 := by omega
            refine pk_le (c - 1) a (fun z => absurd z (by omega)) (fun _ => ?_) ec
            refine pk_le 61 (b + W a) (fun z => join _ ?_) (fun z => ?_)
            · rw [hj, rl_R_n (x := b) (by rw [ea]; exact z)]
            · have ei : (nI a + 1) * 61 + nI (b + W a) = nI ((a + 1) * 61 + (b + W a)) := by rw [nI_1, rl_ix]
              have ev : D2 ((nI a + 1) * 61 + nI (b + W a)).toNatClampNeg = nI (rl_D (rl_o L W S G) W c j (b + W a)) := by
                rw [ei, nI_clamp (by omega), hJ1 _ (by omega), ← eaj]
                exact hI j (by omega) _ z
              refine ⟨pk_in ((a + 1) * 61 + (b + W a)) 610 (by omega) ei, ?_⟩
              have hDl := rl_D_le (rl_o L W S G) W c j (b + W a)
              have hR2 := rl_R_le (rl_o L W S G) W c (c - 1 - a) (b + 1)
              refine rl_yMin rfl ev (by omega) (by omega) (join _ ?_)
              have hy := rl_R_y (o := rl_o L W S G) (W := W) (c := c) (j := j) (x := b) (by rw [ea]; exact z)
              rw [hj, hy, ea]
      refine pk_eq a (c - 1) (fun z => inner _ ?_) (fun z => inner _ ?_) rfl ec
      · rw [show c - 1 - a = 0 by omega]; rfl
      · obtain ⟨j, hj⟩ : ∃ j, c - 1 - a = j + 1 := ⟨c - 1 - (a + 1), by omega⟩
        rw [hj, rl_R_61]; rfl
  exact nm_r (rl_dn_m c) ⟨_, key⟩
end

section
variable {L c : Nat} {W S G : Nat → Nat} {U D H : Nat → Int32}
theorem rl_yRoom {post : Int32 → Prop} (hk : rl_ok L c W S G) (h : post (rl_sm L W c)) : wpY_room post (rl_y L c W S G U D H) := by
  have hc := hk.2.2.1
  refine loop_0 (fun n i (_ : Unit) => wY_room_7 post (nI L) (nI c) (rl_A W) (rl_A S) (rl_A G) U D H n (rl_sm L W i) (nI i)) (fun _ _ => True) c () trivial ?_ ?_
  · intro n _ _
    exact pk_le c c (fun _ => h) (fun z => absurd z (by omega))
  · intro n i _ hi _ k
    refine pk_le c i (fun z => absurd z (by omega)) (fun _ => ?_)
    refine ⟨pk_in i 10 (by omega), ?_⟩
    refine nm_r (e' := rl_sm L W (i + 1)) (by rw [rl_At W (by omega), rl_sm_s]) ?_
    exact nm_r (nI_1 i) (k () trivial)
theorem rl_yAll (hk : rl_ok L c W S G) {post : Int32 → Prop} {s : Nat} (hs : s < 2 ^ 10) (h1 : ∀ e, rl_en S W L s c = some e → post 1) (h0 : rl_en S W L s c = none → post 0) : wpY_allContent post (rl_y L c W S G U D H) (nI s) := by
  have hc := hk.2.2.1
  have hL := hk.2.1
  refine loop_0 (fun n i (e : Nat) => wY_allContent_4 post (nI s) (nI L) (nI c) (rl_A W) (rl_A S) (rl_A G) U D H n (nI e) (nI i)) (fun i e => rl_en S W L s i = some e ∧ e ≤ 65) c 0 ⟨rfl, by omega⟩ ?_ ?_
  · intro n e hI
    exact pk_le c c (fun _ => h1 e hI.1) (fun z => absurd z (by omega))
  · intro n i e hi hI k
    refine pk_le c i (fun z => absurd z (by omega)) (fun _ => ?_)
    have hw := hk.2.2.2.1 i
    have hS := hk.2.2.2.2.1 i
    have hv : vp_in (nI i) 10 := vp_in_nI (by omega) (by decide)
    have eW := rl_At W (i := i) (by omega)
    have eS := rl_At S (i := i) (by omega)
    have eSW : rl_A S (nI i).toNatClampNeg + rl_A W (nI i).toNatClampNeg = nI (S i + W i) := by rw [eS, eW, nI_add]
    have hbt : s / 2 ^ i % 2 < 2 := Nat.mod_lt _ (by decide)
    have none_ : rl_en S W L s (i + 1) = none → rl_en S W L s c = none := by
      intro z
      have := rl_en_n z (c - (i + 1))
      rw [show i + 1 + (c - (i + 1)) = c by omega] at this
      exact this
    refine pk_eq (s / 2 ^ i % 2) 1 (fun z => ?_) (fun z => ?_) (rl_bit (by omega) (by omega))
    · refine ⟨hv, ?_⟩
      refine pk_lt (S i) e (fun z1 => ?_) (fun z1 => ⟨hv, hv, ?_⟩) eS
      · exact h0 (none_ (by rw [rl_en_s, hI.1, rl_es_b z (Or.inl z1)]))
      · refine pk_le (S i + W i) L (fun z2 => ⟨hv, hv, ?_⟩) (fun z2 => ?_) eSW
        · refine nm_r eSW ?_
          refine nm_r (nI_1 i) ?_
          exact k (S i + W i) ⟨by rw [rl_en_s, hI.1, rl_es_1 z (by omega)], by omega⟩
        · exact h0 (none_ (by rw [rl_en_s, hI.1, rl_es_b z (Or.inr z2)]))
    · refine nm_r (nI_1 i) ?_
      exact k e ⟨by rw [rl_en_s, hI.1, rl_es_0 z], hI.2⟩
theorem rl_yContent (hk : rl_ok L c W S G) {post : Int32 → Prop} (h : ∀ q, rl_M S W L c q → post (nI q)) : wpY_content post (rl_y L c W S G U D H) := by
  have hc := hk.2.2.1
  have h2 : 2 ^ c ≤ 2 ^ 10 := Nat.pow_le_pow_right (by decide) hc
  have h1024 : 2 ^ 10 = 1024 := rfl
  refine loop_0 (fun n s (q : Nat) => wY_content_4 post (nI L) (nI c) (rl_A W) (rl_A S) (rl_A G) U D H n (nI q) (nI s)) (fun s q => rl_Y S W L c s q ∧ q ≤ 10) (2 ^ c) 0 ⟨rl_Y_0, by omega⟩ ?_ ?_
  · intro n q hI
    exact pk_le (2 ^ c) (2 ^ c) (fun _ => h q (rl_Y_end hI.1)) (fun z => absurd z (by omega)) (rl_one hc) rfl (by omega) (by omega)
  · intro n s q hs hI k
    refine pk_le (2 ^ c) s (fun z => absurd z (by omega)) (fun _ => ?_) (rl_one hc) rfl (by omega) (by omega)
    refine loop_0 (fun n1 i (_ : Unit) => wY_content_19 post (wY_content_4 post (nI L) (nI c) (rl_A W) (rl_A S) (rl_A G) U D H n) (nI q) (nI s) (nI L) (nI c) (rl_A W) (rl_A S) (rl_A G) U D H n1 (nI (rl_cn s i)) (nI i)) (fun _ _ => True) c () trivial ?_ ?_
    · intro n1 _ _
      refine pk_le c c (fun _ => ?_) (fun z => absurd z (by omega))
      have hcn := rl_cn_le s c
      refine pk_le (rl_cn s c) q (fun z => ?_) (fun z => ?_)
      · exact nm_r (nI_1 s) (k q ⟨rl_Y_le hI.1 z, hI.2⟩)
      · refine rl_yAll hk (by omega) (fun e he => ?_) (fun he => ?_)
        · refine br_f (by decide) ?_
          exact nm_r (nI_1 s) (k (rl_cn s c) ⟨rl_Y_gt hI.1 he z, by omega⟩)
        · refine br_t rfl ?_
          exact nm_r (nI_1 s) (k q ⟨rl_Y_no hI.1 he, hI.2⟩)
    · intro n1 i _ hi _ k1
      refine pk_le c i (fun z => absurd z (by omega)) (fun _ => ?_)
      refine nm_r (e' := nI (rl_cn s (i + 1))) (by rw [rl_bit (by omega) (by omega), nI_add, rl_cn_s]) ?_
      refine nm_r (nI_1 i) ?_
      exact k1 () trivial
theorem rl_yFind {f : Nat → Nat} {post : Int32 → SY → Prop} {J : Int32 → Int32 → Int32 → (Nat → Int32) → (Nat → Int32) → (Nat → Int32) → (Nat → Int32) → (Nat → Int32) → (Nat → Int32) → Prop} {i e r v : Nat} {x1 : Int32} (hi : i < 10) (he : e ≤ 60) (hr : r ≤ e) (hU : ∀ x, x < 61 → U (i * 61 + x) = nI (f x)) (hf : ∀ x, f x ≤ 1000000) (hv : v ≤ 1000000) (h1 : f r = v) (h2 : ∀ x, x < r → f x ≠ v)
    (hE : wY_leftmost_100 post J x1 (nI v) (nI i) (nI r) (nI L) (nI c) (rl_A W) (rl_A S) (rl_A G) U D H) :
    ∀ t x, x + t = r → wY_leftmost_62 post J x1 (nI v) (nI e) (nI i) (nI L) (nI c) (rl_A W) (rl_A S) (rl_A G) U D H (t + 2) (-1) (nI x) := by
  intro t
  induction t with
  | zero =>
    intro x hx
    have ex : x = r := by omega
    subst ex
    have eU : U (nI i * 61 + nI x).toNatClampNeg = nI (f x) := by rw [rl_ix, nI_clamp (by omega)]; exact hU x (by omega)
    have := hf x
    refine pk_lt e x (fun z => absurd z (by omega)) (fun _ => ?_)
    refine br_f (by decide) ⟨pk_in (i * 61 + x) 610 (by omega) (rl_ix i x), ?_⟩
    refine pk_eq (f x) v (fun _ => ?_) (fun z => absurd h1 z) eU
    refine nm_r (nI_1 x) ?_
    exact pk_lt e (x + 1) (fun _ => hE) (fun _ => br_t (nI_pos' (by omega)) hE)
  | succ t ih =>
    intro x hx
    have eU : U (nI i * 61 + nI x).toNatClampNeg = nI (f x) := by rw [rl_ix, nI_clamp (by omega)]; exact hU x (by omega)
    have := hf x
    refine pk_lt e x (fun z => absurd z (by omega)) (fun _ => ?_)
    refine br_f (by decide) ⟨pk_in (i * 61 + x) 610 (by omega) (rl_ix i x), ?_⟩
    refine pk_eq (f x) v (fun z => absurd z (h2 x (by omega))) (fun _ => ?_) eU
    refine nm_r (nI_1 x) ?_
    exact ih (x + 1) (by omega)
theorem rl_yLeft (hk : rl_ok L c W S G) {post : Int32 → SY → Prop} {j : Nat} (hU : ∀ i, i < c → ∀ x, x < 61 → U (i * 61 + x) = nI (rl_U (rl_o L W S G) W i x)) (hv : rl_lm (rl_U (rl_o L W S G) W (c - 1)) 61 < 1000000)
    (h : ∀ H', post (nI (rl_ed (rl_o L W S G) W c (c - 1 - j))) (rl_y L c W S G U D H')) : ∀ t a H1, a = j + t → a < c → wY_leftmost_50 post (nI j) (nI L) (nI c) (t + 2) (nI (rl_du (rl_o L W S G) W c (c - 1 - a))) (nI (rl_la (rl_o L W S G) W c (c - 1 - a))) (nI a) (rl_A W) (rl_A S) (rl_A G) U D H1 := by
  have hc := hk.2.2.1
  intro t
  induction t with
  | zero =>
    intro a H1 ha hac
    have ea : a = j := by omega
    subst ea
    have eca : c - 1 - (c - 1 - a) = a := by omega
    obtain ⟨p1, p2⟩ := rl_path hv (c - 1 - a) (by omega)
    obtain ⟨q1, q2, q3⟩ := rl_ed_ok (rl_o L W S G) W c (c - 1 - a)
    rw [eca] at q2 q3
    refine br_f (nI_nlt (Nat.le_refl _) (by omega)) ⟨rl_ed (rl_o L W S G) W c (c - 1 - a) + 2, ?_⟩
    refine rl_yFind (f := rl_U (rl_o L W S G) W a) (r := rl_ed (rl_o L W S G) W c (c - 1 - a)) (by omega) p1 q1 (hU a hac) (fun x => rl_U_le _ _ _ _) (by omega) q2 q3 ?_ _ 0 (by omega)
    have hva : vp_in (nI a) 10 := vp_in_nI (by omega) (by decide)
    have fin : ∀ (x2 x3 x4 : Int32), x4 = rl_dn a → wY_leftmost_50 post (nI a) (nI L) (nI c) (0 + 1) x2 x3 x4 (rl_A W) (rl_A S) (rl_A G) U D (upd H1 a (nI (rl_ed (rl_o L W S G) W c (c - 1 - a)))) := by
      intro x2 x3 x4 e4
      subst e4
      refine br_t (rl_dn_lt (Nat.le_refl _) (by omega)) ⟨hva, ?_⟩
      have e5 : upd H1 a (nI (rl_ed (rl_o L W S G) W c (c - 1 - a))) (nI a).toNatClampNeg = nI (rl_ed (rl_o L W S G) W c (c - 1 - a)) := by rw [nI_clamp (by omega)]; exact pk_us
      rw [e5]
      exact h _
    refine ⟨hva, ?_⟩
    refine nm_r (rl_ut (by omega)) ?_
    refine rl_yOwn hk (by omega) (by omega) ?_
    refine nm_e ?_
    refine pk_le a 0 (fun z => ?_) (fun z => ⟨pk_in (a - 1) 10 (by omega) (by rw [← pk_sub (by omega)]; rfl), ?_⟩)
    · exact nm_e (fin _ _ _ rfl)
    · exact nm_e (nm_e (fin _ _ _ rfl))
  | succ t ih =>
    intro a H1 ha hac
    obtain ⟨b, rfl⟩ : ∃ b, a = b + 1 := ⟨j + t, by omega⟩
    have eca : c - 1 - (c - 1 - (b + 1)) = b + 1 := by omega
    have ed : c - 1 - (b + 1) + 1 = c - 1 - b := by omega
    have eb : c - 1 - (c - 1 - b) = b := by omega
    obtain ⟨p1, p2⟩ := rl_path hv (c - 1 - (b + 1)) (by omega)
    obtain ⟨q1, q2, q3⟩ := rl_ed_ok (rl_o L W S G) W c (c - 1 - (b + 1))
    obtain ⟨r1, r2⟩ := rl_du_s (o := rl_o L W S G) (W := W) (c := c) (d := c - 1 - (b + 1)) (by omega) p2
    have el := rl_la_s (rl_o L W S G) W c (c - 1 - (b + 1))
    rw [eca] at q2 q3 r2
    rw [ed] at r1 r2 el
    rw [eb] at r1 el
    refine br_f (nI_nlt (by omega) (by omega)) ⟨rl_ed (rl_o L W S G) W c (c - 1 - (b + 1)) + 2, ?_⟩
    refine rl_yFind (f := rl_U (rl_o L W S G) W (b + 1)) (r := rl_ed (rl_o L W S G) W c (c - 1 - (b + 1))) (by omega) p1 q1 (hU (b + 1) hac) (fun x => rl_U_le _ _ _ _) (by omega) q2 q3 ?_ _ 0 (by omega)
    refine ⟨vp_in_nI (by omega) (by decide), ?_⟩
    refine nm_r (rl_ut (by omega)) ?_
    refine rl_yOwn hk (by omega) (by omega) ?_
    refine nm_r (e' := nI (rl_du (rl_o L W S G) W c (c - 1 - b))) (by rw [pk_sub (by omega)]; exact congrArg nI (by omega)) ?_
    have ej : nI (b + 1) - 1 = nI b := nI_pred b
    refine pk_le (b + 1) 0 (fun z => absurd z (by omega)) (fun _ => ⟨pk_in b 10 (by omega) ej, ?_⟩)
    refine nm_r (e' := nI (rl_la (rl_o L W S G) W c (c - 1 - b))) (by rw [ej, rl_At W (by omega), pk_sub r1, el]) ?_
    refine nm_r (pk_m1 b) ?_
    exact ih b _ (by omega) (by omega)
end

theorem s_size5 {S : CS} {post : Int32 → CS → Prop} (h : post (gC_reached S) S) : wp_X5_size S post := h
theorem s_fromB {S : CS} {X : XT} (hw : VW S X) {i : Nat} (hi : i < cnt (rch X) 150) {post : Int32 → CS → Prop} (h : ∀ p, p < 150 → rch X p → gC_order S (cnt (rch X) 150 - 1 - i) = nI p → post (nI p) S) : wp_X5_fromTheBeginning S (nI i) post := by
  obtain ⟨⟨n, h1, h2, h3, h4, h5⟩, h6⟩ := hw
  unfold wp_X5_fromTheBeginning
  rw [h2, h3, show nI (cnt (rch X) 150) - (1 : Int32) = nI (cnt (rch X) 150 - 1) from pk_sub (b := 1) (by omega), pk_sub (by omega), n_cl (by omega)]
  refine ⟨vp_in_nI (by omega) (by omega), ?_⟩
  obtain ⟨p, p1, p2, p3⟩ := h4 (cnt (rch X) 150 - 1 - i) (by omega)
  rw [p2]
  exact h p p1 p3 p2
theorem s_fromE {S : CS} {X : XT} (hw : VW S X) {i : Nat} (hi : i < cnt (rch X) 150) {post : Int32 → CS → Prop} (h : ∀ p, p < 150 → rch X p → gC_order S i = nI p → post (nI p) S) : wp_X5_fromTheEnd S (nI i) post := by
  obtain ⟨⟨n, h1, h2, h3, h4, h5⟩, h6⟩ := hw
  unfold wp_X5_fromTheEnd
  rw [n_cl (by omega)]
  refine ⟨vp_in_nI (by omega) (by omega), ?_⟩
  obtain ⟨p, p1, p2, p3⟩ := h4 i (by omega)
  rw [p2]
  exact h p p1 p3 p2
theorem muE_le (S : CS) : muE S ≤ 19200 := by
  have := sm_le (g := fun q => pc (gC_onAll S q) + (64 - pc (gC_onSome S q))) (c := 128) (n := 150) (fun k _ => by have := pc_le (gC_onAll S k); omega)
  unfold muE; omega
/-- one pass over all points -/
theorem s_passE {X : XT} {S : CS} (hX : XI X) (hb : RCb S X) (hw : VW S X) (hs : sndE S X) (hg : begE S X) {K : Int32 → Int32 → CS → Prop} {post : CS → Prop} {x4 : Int32} (h : ∀ (r : Int32) S', eqE S S' → isb r → sndE S' X → begE S' X → (r = 0 → S' = S ∧ ∀ p, rch X p → cloE S p X) → (¬ r = 0 → muE S' < muE S) → K r (x4 + 1) S') : ∃ n_, wp_X1_flow_53 K post n_ 0 x4 0 S := by
  have hle := cnt_le (rch X) 150
  have hre : gC_reached S = nI (cnt (rch X) 150) := by obtain ⟨⟨n, h1, h2, h3, _⟩, _⟩ := hw; rw [h2, h3]
  have key : ∀ (k i : Nat) (x3 : Int32) (S1 : CS), i + k = cnt (rch X) 150 → eqE S S1 → isb x3 → sndE S1 X → begE S1 X → (x3 = 0 → S1 = S ∧ ∀ j, j < i → ∀ p, p < 150 → gC_order S (cnt (rch X) 150 - 1 - j) = nI p → cloE S p X) → (¬ x3 = 0 → muE S1 < muE S) → wp_X1_flow_53 K post (k + 1) x3 x4 (nI i) S1 := by
    intro k
    induction k with
    | zero =>
      intro i x3 S1 hi heq h6 hs1 hg1 h60 h61
      show ws_X1_flow_53 _ K post _ _ _ S1
      unfold ws_X1_flow_53
      refine s_size5 ?_
      rw [(eqE_n heq).2.2.2.1, hre]
      refine brt ((xc (by omega) (by omega)).mpr (by omega)) (fun x4' e4 => ?_)
      subst e4
      refine h x3 S1 heq h6 hs1 hg1 (fun z => ⟨(h60 z).1, fun p hp => ?_⟩) h61
      obtain ⟨⟨n, h1, h2, h3, h4, h5⟩, _⟩ := hw
      obtain ⟨j, hj, e⟩ := h5 p hp
      refine (h60 z).2 (cnt (rch X) 150 - 1 - j) (by omega) p (rch_lt hX hp) ?_
      rw [show cnt (rch X) 150 - 1 - (cnt (rch X) 150 - 1 - j) = j by omega]
      exact e
    | succ k ih =>
      intro i x3 S1 hi heq h6 hs1 hg1 h60 h61
      show ws_X1_flow_53 _ K post _ _ _ S1
      unfold ws_X1_flow_53
      refine s_size5 ?_
      rw [(eqE_n heq).2.2.2.1, hre]
      refine brf (fun q => absurd ((xc (by omega) (by omega)).mp q) (by omega)) (s_fromB (eqE_w heq hw) (by omega) (fun p hp hr ho => ?_))
      rw [(eqE_n heq).2.2.1] at ho
      refine s_handOnE hX (eqE_b heq hb) hp hr hs1 hg1 (fun r S2 a1 a2 a3 a4 a5 a6 => ?_)
      have heq2 : eqE S S2 := ⟨a1.1.trans heq.1, a1.2.1.trans heq.2.1, a1.2.2.1.trans heq.2.2.1, a1.2.2.2.trans heq.2.2.2⟩
      have go : ∀ (x3' : Int32), isb x3' → (x3' = 0 → S2 = S ∧ ∀ j, j < i + 1 → ∀ p, p < 150 → gC_order S (cnt (rch X) 150 - 1 - j) = nI p → cloE S p X) → (¬ x3' = 0 → muE S2 < muE S) → wp_X1_flow_83 (wp_X1_flow_53 K post (k + 1)) post x3' x4 (nI i) S2 := by
        intro x3' b1 b2 b3
        unfold wp_X1_flow_83
        intro x5 e5
        subst e5
        rw [show nI i + (1 : Int32) = nI (i + 1) from nI_1 i]
        exact ih (i + 1) x3' S2 (by omega) heq2 b1 a3 a4 b2 b3
      refine br (fun c => go x3 h6 (fun z => ?_) (fun z => ?_)) (fun c => go 1 (Or.inr rfl) (fun z => absurd z (by decide)) (fun _ => ?_))
      · obtain ⟨e1, e2⟩ := a5 c
        obtain ⟨e3, e4⟩ := h60 z
        refine ⟨e1.trans e3, fun j hj b hb2 hbo => ?_⟩
        by_cases e : j = i
        · subst e
          have : b = p := n_inj (by omega) (by omega) (hbo.symm.trans ho)
          subst this
          rw [e3] at e2; exact e2
        · exact e4 j (by omega) b hb2 hbo
      · rw [(a5 c).1]; exact h61 z
      · have := a6 c
        by_cases z : x3 = 0
        · rw [(h60 z).1] at this; exact this
        · exact Nat.lt_trans this (h61 z)
  exact ⟨_, key (cnt (rch X) 150) 0 0 S (by omega) ⟨rfl, rfl, rfl, rfl⟩ (Or.inl rfl) hs hg (fun _ => ⟨rfl, fun j hj => by omega⟩) (fun z => absurd rfl z)⟩
theorem s_flow {X : XT} {S : CS} (hX : XI X) (hb : RCb S X) (hw : VW S X) {post : CS → Prop} (h : ∀ S', eqE S S' → VE S' X → post S') : wp_X1_flow S (gC_begun S) post := by
  have hl4 : ∀ v, v < x_nv X → x_lv X v ≤ 4 := fun v hv => (hX.2.1 v hv).2.2.1
  have hn := hX.1
  unfold wp_X1_flow
  have hv0 : vp_in (0 : Int32) 150 := vp_in_nI (n := 0) (N := 150) (by omega) (by omega)
  intro S1 e1 S2 e2
  refine ⟨hv0, fun S3 e3 => ⟨hv0, fun S4 e4 => ?_⟩⟩
  have hc0 : (0 : Int32).toNatClampNeg = 0 := by decide
  rw [hc0] at e3 e4
  have ga : gC_onAll S4 = vp_updL (fl_J 150 (-1) (gC_onAll S)) 0 (gC_begun S) := by subst e4; subst e3; subst e2; subst e1; rfl
  have gs : gC_onSome S4 = vp_updL (fl_J 150 0 (gC_onSome S)) 0 (gC_begun S) := by subst e4; subst e3; subst e2; subst e1; rfl
  have heq : eqE S S4 := by subst e4; subst e3; subst e2; subst e1; exact ⟨rfl, rfl, rfl, rfl⟩
  have hbeg := hb.1.2.2.1
  have hs4 : sndE S4 X := fun q v f hq hv hf => by
    rw [ga, gs]
    by_cases e : q = 0
    · subst e
      rw [ul_s, ul_s, hbeg v f hv hf]
      exact ⟨fun z C h0 _ _ => h0 z, fun z C h0 _ _ => h0 z⟩
    · rw [ul_n e, ul_n e, fj_lt hq, fj_lt hq, lb_0, lb_m1 (by have := hl4 v hv; omega)]
      exact ⟨fun z => (by cases z), fun z => (by cases z)⟩
  have hg4 : begE S4 X := fun v f hv hf => by
    rw [ga, gs, ul_s, ul_s, hbeg v f hv hf]
    exact ⟨fun z => z, fun z => z⟩
  have key : ∀ a : Int32 × Nat × CS, (eqE S a.2.2 ∧ isb a.1 ∧ sndE a.2.2 X ∧ begE a.2.2 X ∧ (a.1 = 0 → ∀ p, rch X p → cloE a.2.2 p X) ∧ (¬ a.1 = 0 → a.2.1 + muE a.2.2 ≤ 19200) ∧ a.2.1 ≤ 19201) → ∃ n, wp_X1_flow_37 post n a.1 (nI a.2.1) a.2.2 := by
    refine lpm (α := Int32 × Nat × CS) (fun n a => wp_X1_flow_37 post n a.1 (nI a.2.1) a.2.2) (fun a => eqE S a.2.2 ∧ isb a.1 ∧ sndE a.2.2 X ∧ begE a.2.2 X ∧ (a.1 = 0 → ∀ p, rch X p → cloE a.2.2 p X) ∧ (¬ a.1 = 0 → a.2.1 + muE a.2.2 ≤ 19200) ∧ a.2.1 ≤ 19201) (fun a => 19201 - a.2.1) (fun n a hI ih => ?_)
    obtain ⟨x3, t, S5⟩ := a
    dsimp only at hI ih ⊢
    obtain ⟨i1, i2, i3, i4, i5, i6, i7⟩ := hI
    show ws_X1_flow_37 _ post _ _ S5
    unfold ws_X1_flow_37
    refine brf (fun q => absurd ((xc (a := 144001) (b := t) (by omega) (by omega)).mp q) (by omega)) (br (fun c => h S5 i1 (flow_end hX (eqE_b i1 hb) i3 i4 (i5 c))) (fun c => ?_))
    have hmu := i6 c
    refine s_passE hX (eqE_b i1 hb) (eqE_w i1 hw) i3 i4 (fun r S6 a1 a2 a3 a4 a5 a6 => ?_)
    rw [show nI t + (1 : Int32) = nI (t + 1) from nI_1 t]
    refine ih (r, t + 1, S6) ⟨⟨a1.1.trans i1.1, a1.2.1.trans i1.2.1, a1.2.2.1.trans i1.2.2.1, a1.2.2.2.trans i1.2.2.2⟩, a2, a3, a4, fun z => ?_, fun z => ?_, ?_⟩ ?_
    · have := a5 z
      rw [this.1]; exact this.2
    · have := a6 z
      show t + 1 + muE S6 ≤ 19200
      omega
    · show t + 1 ≤ 19201; omega
    · show 19201 - (t + 1) < 19201 - t; omega
  exact key (1, 0, S4) ⟨heq, Or.inr rfl, hs4, hg4, fun z => absurd z (by show ¬ (1 : Int32) = 0; decide), fun _ => by have := muE_le S4; show 0 + muE S4 ≤ 19200; omega, by show 0 ≤ 19201; omega⟩
/-! what is known: ways, leaves -/
section KN
variable {S : CS} {X : XT}
theorem s_knowWays (hX : XI X) (hR : RC S X) {post : CS → Prop} (h : ∀ S', RC S' X → ¬ gC_wK S' = 0 → (¬ gC_eK S = 0 → ¬ gC_eK S' = 0) → (¬ gC_lK S = 0 → ¬ gC_lK S' = 0) → post S') : wp_X6_knowWays S post := by
  unfold wp_X6_knowWays
  refine brn (fun c => h S hR c id id) (fun c => ?_)
  refine s_walk hX hR.1.2.2.2 (fun S1 heq hw S2 e2 => ?_)
  have hw1 : gC_wK S2 = 1 := by subst e2; rfl
  have hfl : gC_eK S2 = gC_eK S ∧ gC_lK S2 = gC_lK S := by
    subst e2
    show S1.2.2.2.2.2.2.1 = S.2.2.2.2.2.2.1 ∧ S1.2.2.2.2.2.2.2 = S.2.2.2.2.2.2.2
    rw [heq.2.2.1]; exact ⟨rfl, rfl⟩
  have hb2 : RCb S2 X := by have := eqW_b heq hR.1; subst e2; exact this
  have hw2 : VW S2 X := by subst e2; exact hw
  refine h S2 ⟨hb2, fun _ => hw2, fun z => ?_, fun z => ?_⟩ (by rw [hw1]; decide) (by rw [hfl.1]; exact id) (by rw [hfl.2]; exact id)
  · rw [hfl.1] at z; exact absurd c (hR.2.2.1 z).1
  · rw [hfl.2] at z; exact absurd c (hR.2.2.2 z).1
theorem s_knowLeaves (hX : XI X) (hR : RC S X) {post : CS → Prop} (h : ∀ S', RC S' X → ¬ gC_wK S' = 0 → ¬ gC_eK S' = 0 → (¬ gC_lK S = 0 → ¬ gC_lK S' = 0) → post S') : wp_X6_knowLeaves S post := by
  unfold wp_X6_knowLeaves
  refine s_knowWays hX hR (fun S1 hR1 hw1 _ hl1 => brn (fun c => h S1 hR1 hw1 c hl1) (fun c => ?_))
  unfold wp_X4_begun
  refine s_flow hX hR1.1 (hR1.2.1 hw1) (fun S2 heq hE S3 e3 => ?_)
  have he3 : gC_eK S3 = 1 := by subst e3; rfl
  have hfl : gC_wK S3 = gC_wK S1 ∧ gC_lK S3 = gC_lK S1 := by
    subst e3
    show S2.2.2.2.2.2.1 = S1.2.2.2.2.2.1 ∧ S2.2.2.2.2.2.2.2 = S1.2.2.2.2.2.2.2
    rw [heq.2.2.2]; exact ⟨rfl, rfl⟩
  have hb3 : RCb S3 X := by have := eqE_b heq hR1.1; subst e3; exact this
  have hw3 : VW S3 X := by have := eqE_w heq (hR1.2.1 hw1); subst e3; exact this
  have hE3 : VE S3 X := by subst e3; exact hE
  have hL3 : VL S1 X → VL S3 X := fun q => by
    subst e3
    unfold VL VLn VLh VLu gC_lmade gC_bits gC_makers gC_loansOf gC_soleL gC_holdings gC_usedL at *
    rw [show (sC_eK S2 1).2.2.2.2.1 = S1.2.2.2.2.1 from by rw [← heq.2.2.2]; rfl]
    exact q
  have hw3' : ¬ gC_wK S3 = 0 := by rw [hfl.1]; exact hw1
  refine h S3 ⟨hb3, fun _ => hw3, fun _ => ⟨hw3', hE3⟩, fun z => ?_⟩ hw3' (by rw [he3]; decide) (by rw [hfl.2]; exact hl1)
  rw [hfl.2] at z
  exact ⟨hw3', hL3 (hR1.2.2.2 z).2⟩
end KN

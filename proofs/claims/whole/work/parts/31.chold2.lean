theorem hold_end {S : CS} {X : XT} (hX : XI X) (hb : RCb S X) (hN : VLn S X) (hs : sndH S X) (hc : ∀ p, rch X p → cloH S X p) : VLh S X := by
  intro p v i hp hv hi
  have hn := hX.1
  have h60 := ml_60 hX
  refine ⟨hs p v i hp hv hi, ?_⟩
  rintro ⟨l, l1, l2, l3, l4⟩
  subst l3
  have hbi : ∀ q r i, r < x_nv X → i < 64 → ∀ a, rch X a → x_ed X a q = true → (∀ f, aft S X a f → lb (f r) i = true) → lb (gC_holdings S (16 * q + r)) i = true := fun q r i hr hi a ha he hh => by
    obtain ⟨f, f1, f2⟩ := hc a ha
    exact sub_z (f2 q r he hr) hi (hh f f1)
  refine (l4 (fun p r => r < x_nv X ∧ x_so X r ≠ 0 ∧ rch X p ∧ lb (gC_holdings S (16 * p + r)) (cnt (ml X) l) = true) (fun hr hne q he => ?_) (fun a r q hC hg hrn he => ?_) (fun a r q hC hg hpas he => ?_)).2.2.2
  · have hk := hX.2.2.1 l l1
    have ht := ok_to hk (Or.inl l2.1)
    refine ⟨ht.1, ht.2, rch_s hr he, hbi q _ _ ht.1 hi l hr he (fun f hf => ?_)⟩
    obtain ⟨-, -, -, -, -, d6, -⟩ := hb.2.2.1 l l1
    refine (hf _ _ ht.1 hi).mpr (Or.inr ⟨_, ht.1, d6 (Or.inl l2.1), fun z => ?_, Or.inr ⟨rfl, Or.inl ?_⟩⟩)
    · obtain ⟨p', q1, q2, q3, q4⟩ := (hN.2.2.2.1 _ _ ht.1 hi).mp z
      have := cnt_inj l2 q2 q3
      subst this
      exact hne q4
    · rw [(hN.2.1 l l1 l2).1, lb_one (by omega)]
      exact decide_eq_true rfl
  · obtain ⟨c1, c2, c3, c4⟩ := hC
    have ha := rch_lt hX c3
    have hk := hX.2.2.1 a ha
    obtain ⟨-, -, -, -, -, d6, d7, d8⟩ := hb.2.2.1 a ha
    refine ⟨c1, c2, rch_s c3 he, hbi q _ _ c1 hi a c3 he (fun f hf => (hf _ _ c1 hi).mpr ?_)⟩
    have hno : ∀ x, x < x_nv X → x_so X x ≠ 0 → rn X a x → ¬ lb (gC_loansOf S x) (cnt (ml X) l) = true := fun x hx hsx hrx z => by
      obtain ⟨p', q1, q2, q3, q4⟩ := (hN.2.2.2.1 _ _ hx hi).mp z
      have := cnt_inj l2 q2 q3
      subst this
      exact hg ⟨by rw [q4]; exact hsx, by rw [q4]; exact hrx⟩
    by_cases h7 : x_ac X a = 7 ∨ x_ac X a = 8
    · have ht := ok_to hk h7
      have hr2 : rn X a (x_to X a) := Or.inl ⟨h7, rfl⟩
      exact Or.inr ⟨_, ht.1, d6 h7, hno _ ht.1 ht.2 hr2, Or.inl ⟨fun e => hrn (by rw [e]; exact hr2), c4⟩⟩
    · by_cases h5 : x_ac X a = 5 ∧ x_so X (x_of X a) ≠ 0
      · have ho := ok_of hk (by omega)
        have hr2 : rn X a (x_of X a) := Or.inr ⟨h5.1, rfl⟩
        exact Or.inr ⟨_, ho, d7 h5, hno _ ho h5.2 hr2, Or.inl ⟨fun e => hrn (by rw [e]; exact hr2), c4⟩⟩
      · exact Or.inl ⟨d8 ⟨h7, h5⟩, c4⟩
  · obtain ⟨c1, c2, c3, c4⟩ := hC
    have ha := rch_lt hX c3
    have hk := hX.2.2.1 a ha
    obtain ⟨-, -, -, d4, -, d6, -⟩ := hb.2.2.1 a ha
    have h78 : x_ac X a = 7 ∨ x_ac X a = 8 := by rcases hpas with z | z <;> omega
    have eo : x_of X a = r := by rcases hpas with z | z <;> omega
    have ht := ok_to hk h78
    refine ⟨ht.1, ht.2, rch_s c3 he, hbi q _ _ ht.1 hi a c3 he (fun f hf => (hf _ _ ht.1 hi).mpr ?_)⟩
    have hus : us X a (x_of X a) := by
      rcases hpas with z | z
      · exact Or.inl ⟨z.1, rfl⟩
      · refine Or.inr ⟨by unfold onp; omega, rfl, by rw [z.2.1]; exact z.2.2, ?_⟩
        rcases hk with k | k | k | k | k | k
        · omega
        · omega
        · omega
        · omega
        · have := k.2.2.2.2.1 (by rw [z.2.1]; exact z.2.2); omega
        · omega
    refine Or.inr ⟨_, ht.1, d6 h78, fun z => ?_, Or.inr ⟨rfl, Or.inr ⟨r, c1, ?_, c4⟩⟩⟩
    · obtain ⟨p', q1, q2, q3, q4⟩ := (hN.2.2.2.1 _ _ ht.1 hi).mp z
      have := cnt_inj l2 q2 q3
      subst this
      exact hg ⟨by rw [q4]; exact ht.2, Or.inl ⟨h78, by rw [q4]⟩⟩
    · rw [d4 hus, eo]
theorem cloH_eq {S S' : CS} {X : XT} {p : Nat} (he : eqH S S') (hh : gC_holdings S' = gC_holdings S) (h : cloH S X p) : cloH S' X p := by
  have e3 : gC_renR S' = gC_renR S := by unfold gC_renR; rw [he.1.2.1]
  have e4 : gC_usedR S' = gC_usedR S := by unfold gC_usedR; rw [he.1.2.1]
  unfold cloH aft at *
  rw [hh, e3, e4, he.2.2.1, he.2.2.2.1]
  exact h
theorem s_passH {X : XT} {S : CS} (hX : XI X) (hb : RCb S X) (hN : VLn S X) (hw : VW S X) (hs : sndH S X) {K : Int32 → Int32 → CS → Prop} {post : CS → Prop} {x2 : Int32} (h : ∀ (r : Int32) S', eqH S S' → isb r → sndH S' X → (r = 0 → ∀ p, rch X p → cloH S' X p) → (¬ r = 0 → muH S' < muH S) → K r (x2 + 1) S') : ∃ n_, wp_X2_flowHoldings_37 K post n_ 0 x2 0 S := by
  have hle := cnt_le (rch X) 150
  have hre : gC_reached S = nI (cnt (rch X) 150) := by obtain ⟨⟨n, h1, h2, h3, _⟩, _⟩ := hw; rw [h2, h3]
  have key : ∀ (k i : Nat) (x1 : Int32) (S1 : CS), i + k = cnt (rch X) 150 → eqH S S1 → isb x1 → sndH S1 X → (x1 = 0 → gC_holdings S1 = gC_holdings S ∧ ∀ j, j < i → ∀ p, p < 150 → gC_order S (cnt (rch X) 150 - 1 - j) = nI p → cloH S X p) → (¬ x1 = 0 → muH S1 < muH S) → wp_X2_flowHoldings_37 K post (k + 1) x1 x2 (nI i) S1 := by
    intro k
    induction k with
    | zero =>
      intro i x1 S1 hi heq h6 hs1 h60 h61
      show ws_X2_flowHoldings_37 _ K post _ _ _ S1
      unfold ws_X2_flowHoldings_37
      refine s_size5 ?_
      rw [(eqL_n heq.1).2.2.2.1, hre]
      refine brt ((xc (by omega) (by omega)).mpr (by omega)) (fun x2' e2 => ?_)
      subst e2
      refine h x1 S1 heq h6 hs1 (fun z p hp => cloH_eq heq (h60 z).1 ?_) h61
      obtain ⟨⟨n, h1, h2, h3, h4, h5⟩, _⟩ := hw
      obtain ⟨j, hj, e⟩ := h5 p hp
      refine (h60 z).2 (cnt (rch X) 150 - 1 - j) (by omega) p (rch_lt hX hp) ?_
      rw [show cnt (rch X) 150 - 1 - (cnt (rch X) 150 - 1 - j) = j by omega]
      exact e
    | succ k ih =>
      intro i x1 S1 hi heq h6 hs1 h60 h61
      show ws_X2_flowHoldings_37 _ K post _ _ _ S1
      unfold ws_X2_flowHoldings_37
      refine s_size5 ?_
      rw [(eqL_n heq.1).2.2.2.1, hre]
      refine brf (fun q => absurd ((xc (by omega) (by omega)).mp q) (by omega)) (s_fromB (eqL_w heq.1 hw) (by omega) (fun p hp hr ho => ?_))
      rw [(eqL_n heq.1).2.2.1] at ho
      refine s_handOnH hX (eqL_b heq.1 hb) (eqH_v heq hN) hs1 hp hr (fun r S2 a1 a2 a3 a5 a6 => ?_)
      have go : ∀ (x1' : Int32), isb x1' → (x1' = 0 → gC_holdings S2 = gC_holdings S ∧ ∀ j, j < i + 1 → ∀ p, p < 150 → gC_order S (cnt (rch X) 150 - 1 - j) = nI p → cloH S X p) → (¬ x1' = 0 → muH S2 < muH S) → wp_X2_flowHoldings_65 (wp_X2_flowHoldings_37 K post (k + 1)) post x1' x2 (nI i) S2 := by
        intro x1' b1 b2 b3
        unfold wp_X2_flowHoldings_65
        intro x5 e5
        subst e5
        rw [show nI i + (1 : Int32) = nI (i + 1) from nI_1 i]
        exact ih (i + 1) x1' S2 (by omega) (eqH_t heq a1) b1 a3 b2 b3
      refine br (fun c => go x1 h6 (fun z => ?_) (fun z => ?_)) (fun c => go 1 (Or.inr rfl) (fun z => absurd z (by decide)) (fun _ => ?_))
      · obtain ⟨e1, e2⟩ := a5 c
        obtain ⟨e3, e4⟩ := h60 z
        refine ⟨e1.trans e3, fun j hj b hb2 hbo => ?_⟩
        by_cases e : j = i
        · subst e
          have : b = p := n_inj (by omega) (by omega) (hbo.symm.trans ho)
          subst this
          have hq : eqH S1 S := ⟨⟨heq.1.1.symm, heq.1.2.1.symm, heq.1.2.2.1.symm, heq.1.2.2.2.1.symm, heq.1.2.2.2.2.symm⟩, heq.2.1.symm, heq.2.2.1.symm, heq.2.2.2.1.symm, heq.2.2.2.2.1.symm, heq.2.2.2.2.2.1.symm, heq.2.2.2.2.2.2.symm⟩
          exact cloH_eq hq e3.symm e2
        · exact e4 j (by omega) b hb2 hbo
      · have e : muH S2 = muH S1 := by unfold muH; rw [(a5 c).1]
        rw [e]; exact h61 z
      · have := a6 c
        by_cases z : x1 = 0
        · have e : muH S1 = muH S := by unfold muH; rw [(h60 z).1]
          omega
        · exact Nat.lt_trans this (h61 z)
  exact ⟨_, key (cnt (rch X) 150) 0 0 S (by omega) (eqH_r S) (Or.inl rfl) hs (fun _ => ⟨rfl, fun j hj => by omega⟩) (fun z => absurd rfl z)⟩
theorem s_flowH {X : XT} {S : CS} (hX : XI X) (hb : RCb S X) (hN : VLn S X) (hw : VW S X) {post : CS → Prop} (h : ∀ S', eqH S S' → VLh S' X → post S') : wp_X2_flowHoldings S post := by
  have hn := hX.1
  have h60 := ml_60 hX
  unfold wp_X2_flowHoldings
  intro S1 e1
  have heq1 : eqH S S1 := by subst e1; exact eqH_r S
  have gh : gC_holdings S1 = fl_J 2400 0 (gC_holdings S) := by subst e1; rfl
  have hs1 : sndH S1 X := fun p v i hp hv hi hb1 => by
    rw [gh, fj_lt (by omega), lb_0] at hb1; cases hb1
  have key : ∀ a : Int32 × Nat × CS, (eqH S a.2.2 ∧ isb a.1 ∧ sndH a.2.2 X ∧ (a.1 = 0 → ∀ p, rch X p → cloH a.2.2 X p) ∧ (¬ a.1 = 0 → a.2.1 + muH a.2.2 ≤ 144000) ∧ a.2.1 ≤ 144001) → ∃ n, wp_X2_flowHoldings_23 post n a.1 (nI a.2.1) a.2.2 := by
    refine lpm (α := Int32 × Nat × CS) (fun n a => wp_X2_flowHoldings_23 post n a.1 (nI a.2.1) a.2.2) (fun a => eqH S a.2.2 ∧ isb a.1 ∧ sndH a.2.2 X ∧ (a.1 = 0 → ∀ p, rch X p → cloH a.2.2 X p) ∧ (¬ a.1 = 0 → a.2.1 + muH a.2.2 ≤ 144000) ∧ a.2.1 ≤ 144001) (fun a => 144001 - a.2.1) (fun n a hI ih => ?_)
    obtain ⟨x1, t, S5⟩ := a
    dsimp only at hI ih ⊢
    obtain ⟨i1, i2, i3, i5, i6, i7⟩ := hI
    show ws_X2_flowHoldings_23 _ post _ _ S5
    unfold ws_X2_flowHoldings_23
    have hend : x1 = 0 → post S5 := fun c => h S5 i1 (hold_end hX (eqL_b i1.1 hb) (eqH_v i1 hN) i3 (i5 c))
    refine br (fun c => hend (Classical.byContradiction (fun z => ?_))) (fun c2 => br hend (fun c => ?_))
    · have := i6 z
      have := (xc (a := 144001) (b := t) (by omega) (by omega)).mp c
      omega
    · have hmu := i6 c
      refine s_passH hX (eqL_b i1.1 hb) (eqH_v i1 hN) (eqL_w i1.1 hw) i3 (fun r S6 a1 a2 a3 a5 a6 => ?_)
      rw [show nI t + (1 : Int32) = nI (t + 1) from nI_1 t]
      refine ih (r, t + 1, S6) ⟨eqH_t i1 a1, a2, a3, a5, fun z => ?_, ?_⟩ ?_
      · have := a6 z
        show t + 1 + muH S6 ≤ 144000
        omega
      · show t + 1 ≤ 144001; omega
      · show 144001 - (t + 1) < 144001 - t; omega
  unfold wp_X2_flowHoldings_20
  rw [show gC_lmade S1 = gC_lmade S from heq1.2.2.2.2.2.2, hN.1]
  refine br (fun c => key (0, 0, S1) ⟨heq1, Or.inl rfl, hs1, fun _ p hp => ?_, fun z => absurd rfl z, by show 0 ≤ 144001; omega⟩) (fun c => key (1, 0, S1) ⟨heq1, Or.inr rfl, hs1, fun z => absurd z (by show ¬ (1 : Int32) = 0; decide), fun _ => by have := muH_le S1; show 0 + muH S1 ≤ 144000; omega, by show 0 ≤ 144001; omega⟩)
  -- no loans: nothing is held
  have h0 : cnt (ml X) 150 = 0 := by have := (xc (a := cnt (ml X) 150) (b := 0) (by omega) (by omega)).mp c; omega
  have hno := cnt_0 h0
  have hb1 := eqL_b heq1.1 hb
  have hp1 := rch_lt hX hp
  refine ⟨fun _ => 0, fun v i hv hi => ?_, fun q v _ _ => ?_⟩
  · show lb 0 i = true ↔ _
    rw [lb_0]
    have hz : ∀ u, u < x_nv X → ¬ lb (gC_holdings S1 (16 * p + u)) i = true := fun u hu => by rw [gh, fj_lt (by omega), lb_0]; decide
    refine ⟨fun z => (by cases z), fun z => ?_⟩
    rcases z with z | ⟨a, _, _, _, z⟩
    · exact absurd z.2 (hz v hv)
    · rcases z with z | z
      · exact absurd z.2 (hz v hv)
      · rcases z.2 with z | ⟨u, u1, u2, u3⟩
        · rw [(eqH_v heq1 hN).2.2.1 p hp1 (hno p hp1), lb_0] at z; cases z
        · exact absurd u3 (hz u u1)
  · show (0 : Int64) &&& _ = 0
    exact lb_z.mpr (fun i _ => by rw [lb_and, lb_0]; rfl)

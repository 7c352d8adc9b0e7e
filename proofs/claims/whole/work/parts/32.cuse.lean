/-! uses: what a later point uses -/
def eqU (S S' : CS) : Prop := eqL S S' ∧ gC_makers S' = gC_makers S ∧ gC_bits S' = gC_bits S ∧ gC_loansOf S' = gC_loansOf S ∧ gC_holdings S' = gC_holdings S ∧ gC_soleL S' = gC_soleL S ∧ gC_lmade S' = gC_lmade S
theorem eqU_t {S S' S'' : CS} (h : eqU S S') (h' : eqU S' S'') : eqU S S'' := ⟨eqL_t h.1 h'.1, h'.2.1.trans h.2.1, h'.2.2.1.trans h.2.2.1, h'.2.2.2.1.trans h.2.2.2.1, h'.2.2.2.2.1.trans h.2.2.2.2.1, h'.2.2.2.2.2.1.trans h.2.2.2.2.2.1, h'.2.2.2.2.2.2.trans h.2.2.2.2.2.2⟩
theorem eqU_r (S : CS) : eqU S S := ⟨⟨rfl, rfl, rfl, rfl, rfl⟩, rfl, rfl, rfl, rfl, rfl, rfl⟩
def Fb (S : CS) (X : XT) (p r : Nat) : Prop := ∃ q, x_ed X p q = true ∧ ((ib (gC_usedL S q) r = true ∧ gC_renR S q ≠ nI r) ∨ gC_usedR S q = nI r)
theorem s_varBit {S : CS} {x : Int32} (hx : x = -1 ∨ ∃ a, a < 16 ∧ x = nI a) {post : Int32 → CS → Prop} (h : ∀ w : Int32, (∀ r, r < 32 → (ib w r = true ↔ x = nI r)) → post w S) : wp_X2_variableBit S x post := by
  unfold wp_X2_variableBit
  rcases hx with rfl | ⟨a, ha, rfl⟩
  · exact brnf rfl (h 0 (fun r hr => by rw [ib_0]; exact ⟨fun z => (by cases z), fun z => absurd z.symm (n_m1 (by omega))⟩))
  · refine brnt (n_m1 (by omega)) (h _ (fun r hr => ?_))
    rw [ib_one (by omega), decide_eq_true_iff]
    exact ⟨fun z => by rw [z], fun z => (n_inj (by omega) (by omega) z).symm⟩
theorem ren_cases {S : CS} {X : XT} (hX : XI X) (hb : RCb S X) {p : Nat} (hp : p < 150) : gC_renR S p = -1 ∨ ∃ a, a < 16 ∧ gC_renR S p = nI a := by
  have hn := hX.1
  have hk := hX.2.2.1 p hp
  obtain ⟨-, -, -, d4, d5, d6, d7, d8⟩ := hb.2.2.1 p hp
  by_cases h7 : x_ac X p = 7 ∨ x_ac X p = 8
  · have := (ok_to hk h7).1; exact Or.inr ⟨_, by omega, d6 h7⟩
  · by_cases h5 : x_ac X p = 5 ∧ x_so X (x_of X p) ≠ 0
    · have := ok_of hk (by omega); exact Or.inr ⟨_, by omega, d7 h5⟩
    · exact Or.inl (d8 ⟨h7, h5⟩)
theorem us_of {X : XT} (hX : XI X) {p : Nat} (hp : p < 150) (h : us X p (x_of X p)) : x_of X p < x_nv X ∧ x_so X (x_of X p) ≠ 0 := by
  have hk := hX.2.2.1 p hp
  have h0 : x_ac X p ≠ 0 := by
    rcases h with z | z
    · omega
    · have := z.1; unfold onp at this; omega
  refine ⟨ok_of hk h0, ?_⟩
  rcases h with z | z
  · rcases hk with k | k | k | k | k | k
    · omega
    · omega
    · omega
    · omega
    · omega
    · exact k.2.2.2.1
  · exact z.2.2.1
theorem use_cases {S : CS} {X : XT} (hX : XI X) (hb : RCb S X) {p : Nat} (hp : p < 150) : gC_usedR S p = -1 ∨ ∃ a, a < 16 ∧ gC_usedR S p = nI a := by
  have hn := hX.1
  obtain ⟨-, -, -, d4, d5, -⟩ := hb.2.2.1 p hp
  by_cases h : us X p (x_of X p)
  · have := (us_of hX hp h).1; exact Or.inr ⟨_, by omega, d4 h⟩
  · exact Or.inl (d5 h)
/-- what LoanWays notes of p's act, in words of X -/
theorem us_iff {S : CS} {X : XT} (hX : XI X) (hb : RCb S X) {p r : Nat} (hp : p < 150) (hr : r < 32) : gC_usedR S p = nI r ↔ us X p r := by
  have hn := hX.1
  obtain ⟨-, -, -, d4, d5, -⟩ := hb.2.2.1 p hp
  constructor
  · intro e
    have h : us X p (x_of X p) := Classical.byContradiction (fun z => by rw [d5 z] at e; exact n_m1 (by omega) e.symm)
    have e2 := n_inj (by have := (us_of hX hp h).1; omega) (by omega) ((d4 h).symm.trans e)
    rw [← e2]; exact h
  · intro h
    have e : x_of X p = r := by rcases h with z | z <;> omega
    rw [← e] at h ⊢
    exact d4 h
theorem rn_iff {S : CS} {X : XT} (hX : XI X) (hb : RCb S X) {p r : Nat} (hp : p < 150) (hr : r < 32) (hs : x_so X r ≠ 0) : gC_renR S p = nI r ↔ rn X p r := by
  have hn := hX.1
  have hk := hX.2.2.1 p hp
  obtain ⟨-, -, -, -, -, d6, d7, d8⟩ := hb.2.2.1 p hp
  constructor
  · intro e
    by_cases h7 : x_ac X p = 7 ∨ x_ac X p = 8
    · have := n_inj (by have := (ok_to hk h7).1; omega) (by omega) ((d6 h7).symm.trans e)
      exact Or.inl ⟨h7, this⟩
    · by_cases h5 : x_ac X p = 5 ∧ x_so X (x_of X p) ≠ 0
      · have := n_inj (by have := ok_of hk (by omega); omega) (by omega) ((d7 h5).symm.trans e)
        exact Or.inr ⟨h5.1, this⟩
      · rw [d8 ⟨h7, h5⟩] at e; exact absurd e.symm (n_m1 (by omega))
  · rintro (z | z)
    · rw [d6 z.1, z.2]
    · rw [d7 ⟨z.1, by rw [z.2]; exact hs⟩, z.2]
theorem s_usesB {S : CS} {X : XT} (hX : XI X) (hb : RCb S X) {p : Nat} (hp : p < 150) {post : Int32 → CS → Prop} (h : ∀ w : Int32, (∀ r, r < 32 → (ib w r = true ↔ Fb S X p r)) → post w S) : wp_X2_usesBehind S (nI p) post := by
  have hc := hX.2.2.2.2.1 p hp
  obtain ⟨m1, m2, m3, m4⟩ := hb.2.2.2 p hp
  have key : ∀ (k i : Nat) (x2 : Int32), i + k = x_cn X p → (∀ r, r < 32 → (ib x2 r = true ↔ ∃ j q, j < i ∧ q < 150 ∧ gC_nexts S (4 * p + j) = nI q ∧ ((ib (gC_usedL S q) r = true ∧ gC_renR S q ≠ nI r) ∨ gC_usedR S q = nI r))) → wp_X2_usesBehind_4 post (k + 1) (nI p) x2 (nI i) S := by
    intro k
    induction k with
    | zero =>
      intro i x2 hi hx
      show ws_X2_usesBehind_4 _ post _ _ _ S
      unfold ws_X2_usesBehind_4
      refine s_nextCount hp ?_
      rw [m1]
      refine brt ((xc (by omega) (by omega)).mpr (by omega)) (h x2 (fun r hr => ?_))
      rw [hx r hr]
      constructor
      · rintro ⟨j, q, j1, j2, j3, j4⟩
        obtain ⟨q2, a1, a2, a3⟩ := m2 j (by omega)
        have := n_inj (by omega) (by omega) (j3.symm.trans a2)
        subst this
        exact ⟨q, a3, j4⟩
      · rintro ⟨q, q1, q2⟩
        obtain ⟨j, j1, j2⟩ := m3 q q1
        exact ⟨j, q, by omega, (hX.2.2.2.1 p q q1).2, j2, q2⟩
    | succ k ih =>
      intro i x2 hi hx
      show ws_X2_usesBehind_4 _ post _ _ _ S
      unfold ws_X2_usesBehind_4
      refine s_nextCount hp ?_
      rw [m1]
      refine brf (fun q => absurd ((xc (by omega) (by omega)).mp q) (by omega)) (s_nextOf hp (by omega) ?_)
      obtain ⟨q, hq, hqn, hqe⟩ := m2 i (by omega)
      rw [hqn, n_cl (by omega)]
      refine ⟨vp_in_nI (by omega) (by omega), s_renewedAt hq (s_varBit (ren_cases hX hb hq) (fun w1 hw1 => s_usedAt hq (s_varBit (use_cases hX hb hq) (fun w2 hw2 x2' e2 x3 e3 => ?_))))⟩
      subst e3
      rw [show nI i + (1 : Int32) = nI (i + 1) from nI_1 i]
      refine ih (i + 1) x2' (by omega) (fun r hr => ?_)
      rw [e2, ib_or, ib_or, ib_and, ib_not _ hr, Bool.or_eq_true, Bool.or_eq_true, Bool.and_eq_true, hx r hr, hw2 r hr]
      have hnw : (!ib w1 r) = true ↔ gC_renR S q ≠ nI r := by
        have := hw1 r hr
        cases e : ib w1 r
        · rw [e] at this; simp; intro z; exact absurd (this.mpr z) (by decide)
        · rw [e] at this; simp; exact this.mp rfl
      rw [hnw]
      constructor
      · rintro (⟨j, q2, j1, j2, j3, j4⟩ | z)
        · exact ⟨j, q2, by omega, j2, j3, j4⟩
        · exact ⟨i, q, by omega, hq, hqn, z⟩
      · rintro ⟨j, q2, j1, j2, j3, j4⟩
        by_cases e : j = i
        · subst e
          have := n_inj (by omega) (by omega) (j3.symm.trans hqn)
          subst this
          exact Or.inr j4
        · exact Or.inl ⟨j, q2, by omega, j2, j3, j4⟩
  exact ⟨_, key (x_cn X p) 0 0 (by omega) (fun r hr => by rw [ib_0]; exact ⟨fun z => (by cases z), fun ⟨j, q, j1, _⟩ => by omega⟩)⟩
noncomputable def p32 (w : Int32) : Nat := cnt (fun i => ib w i = true) 32
noncomputable def muU (S : CS) : Nat := sm (fun p => 32 - p32 (gC_usedL S p)) 150
theorem muU_le (S : CS) : muU S ≤ 4800 := by
  have := sm_le (g := fun p => 32 - p32 (gC_usedL S p)) (c := 32) (n := 150) (fun k _ => by omega)
  unfold muU; omega
def sndU (S : CS) (X : XT) : Prop := ∀ p r, p < 150 → r < 32 → ib (gC_usedL S p) r = true → r < x_nv X ∧ x_so X r ≠ 0 ∧ usd X r p
def monU (S : CS) (X : XT) : Prop := ∀ p r, p < 150 → r < 32 → ib (gC_usedL S p) r = true → Fb S X p r
theorem Fb_snd {S : CS} {X : XT} (hX : XI X) (hb : RCb S X) (hs : sndU S X) {p r : Nat} (hp : rch X p) (hr : r < 32) (h : Fb S X p r) : r < x_nv X ∧ x_so X r ≠ 0 ∧ usd X r p := by
  obtain ⟨q, he, h⟩ := h
  have hq := (hX.2.2.2.1 p q he).2
  rcases h with ⟨h1, h2⟩ | h1
  · obtain ⟨s1, s2, s3⟩ := hs q r hq hr h1
    exact ⟨s1, s2, fun C hc => hc p q hp he (Or.inr ⟨fun z => h2 ((rn_iff hX hb hq hr s2).mpr z), s3 C hc⟩)⟩
  · have hu := (us_iff hX hb hq hr).mp h1
    have e : x_of X q = r := by rcases hu with z | z <;> omega
    have hu2 := hu
    rw [← e] at hu2
    have := us_of hX hq hu2
    rw [e] at this
    exact ⟨this.1, this.2, fun C hc => hc p q hp he (Or.inl hu)⟩
def cloU (S : CS) (X : XT) (p : Nat) : Prop := ∀ r, r < 32 → Fb S X p r → ib (gC_usedL S p) r = true
theorem use_end {S : CS} {X : XT} (hX : XI X) (hb : RCb S X) (hs : sndU S X) (hc : ∀ p, rch X p → cloU S X p) : VLu S X := by
  intro p hp r hr
  refine ⟨hs p r hp hr, fun ⟨h1, h2, h3⟩ => h3 (fun p => ib (gC_usedL S p) r = true) (fun a q ha he h => hc a ha r hr ⟨q, he, ?_⟩)⟩
  have hq := (hX.2.2.2.1 a q he).2
  rcases h with h | ⟨h, h4⟩
  · exact Or.inr ((us_iff hX hb hq hr).mpr h)
  · exact Or.inl ⟨h4, fun z => h ((rn_iff hX hb hq hr h2).mp z)⟩
theorem s_passU {X : XT} {S : CS} (hX : XI X) (hb : RCb S X) (hw : VW S X) (hs : sndU S X) (hm : monU S X) {K : Int32 → Int32 → CS → Prop} {post : CS → Prop} {x2 : Int32} (h : ∀ (r : Int32) S', eqU S S' → isb r → sndU S' X → monU S' X → (r = 0 → S' = S ∧ ∀ p, rch X p → cloU S X p) → (¬ r = 0 → muU S' < muU S) → K r (x2 + 1) S') : ∃ n_, wp_X2_flowUses_26 K post n_ 0 x2 0 S := by
  have hle := cnt_le (rch X) 150
  have hre : gC_reached S = nI (cnt (rch X) 150) := by obtain ⟨⟨n, h1, h2, h3, _⟩, _⟩ := hw; rw [h2, h3]
  have key : ∀ (k i : Nat) (x1 : Int32) (S1 : CS), i + k = cnt (rch X) 150 → eqU S S1 → isb x1 → sndU S1 X → monU S1 X → (x1 = 0 → S1 = S ∧ ∀ j, j < i → ∀ p, p < 150 → gC_order S j = nI p → cloU S X p) → (¬ x1 = 0 → muU S1 < muU S) → wp_X2_flowUses_26 K post (k + 1) x1 x2 (nI i) S1 := by
    intro k
    induction k with
    | zero =>
      intro i x1 S1 hi heq h6 hs1 hm1 h60 h61
      show ws_X2_flowUses_26 _ K post _ _ _ S1
      unfold ws_X2_flowUses_26
      refine s_size5 ?_
      rw [(eqL_n heq.1).2.2.2.1, hre]
      refine brt ((xc (by omega) (by omega)).mpr (by omega)) (fun x2' e2 => ?_)
      subst e2
      refine h x1 S1 heq h6 hs1 hm1 (fun z => ⟨(h60 z).1, fun p hp => ?_⟩) h61
      obtain ⟨⟨n, h1, h2, h3, h4, h5⟩, _⟩ := hw
      obtain ⟨j, hj, e⟩ := h5 p hp
      exact (h60 z).2 j (by omega) p (rch_lt hX hp) e
    | succ k ih =>
      intro i x1 S1 hi heq h6 hs1 hm1 h60 h61
      show ws_X2_flowUses_26 _ K post _ _ _ S1
      unfold ws_X2_flowUses_26
      refine s_size5 ?_
      rw [(eqL_n heq.1).2.2.2.1, hre]
      have hb1 := eqL_b heq.1 hb
      refine brf (fun q => absurd ((xc (by omega) (by omega)).mp q) (by omega)) (s_fromE (eqL_w heq.1 hw) (by omega) (fun p hp hr ho => ?_))
      rw [(eqL_n heq.1).2.2.1] at ho
      refine s_usesB hX hb1 hp (fun w hwF => ?_)
      rw [n_cl (by omega)]
      have hvp : vp_in (nI p) 150 := vp_in_nI (by omega) (by omega)
      have go : ∀ (x1' : Int32) S2, eqU S S2 → isb x1' → sndU S2 X → monU S2 X → (x1' = 0 → S2 = S ∧ ∀ j, j < i + 1 → ∀ p, p < 150 → gC_order S j = nI p → cloU S X p) → (¬ x1' = 0 → muU S2 < muU S) → wp_X2_flowUses_78 (wp_X2_flowUses_26 K post (k + 1)) post x1' x2 (nI i) S2 := by
        intro x1' S2 b0 b1 b2 b3 b4 b5
        unfold wp_X2_flowUses_78
        intro x5 e5
        subst e5
        rw [show nI i + (1 : Int32) = nI (i + 1) from nI_1 i]
        exact ih (i + 1) x1' S2 (by omega) b0 b1 b2 b3 b4 b5
      refine ⟨hvp, br (fun c => go x1 S1 heq h6 hs1 hm1 (fun z => ⟨(h60 z).1, fun j hj b hb2 hbo => ?_⟩) h61) (fun c => ⟨hvp, fun S2 e2 => ?_⟩)⟩
      · by_cases e : j = i
        · subst e
          have : b = p := n_inj (by omega) (by omega) (hbo.symm.trans ho)
          subst this
          intro r hr2 hF
          have e0 := (h60 z).1
          rw [e0] at c hwF
          rw [← c]; exact (hwF r hr2).mpr hF
        · exact (h60 z).2 j (by omega) b hb2 hbo
      · have gu : gC_usedL S2 = upd (gC_usedL S1) p w := by subst e2; rfl
        have heq2 : eqU S S2 := by subst e2; exact heq
        have eren : gC_renR S2 = gC_renR S1 := by subst e2; rfl
        have euse : gC_usedR S2 = gC_usedR S1 := by subst e2; rfl
        have hgrow : ∀ q r, q < 150 → r < 32 → ib (gC_usedL S1 q) r = true → ib (gC_usedL S2 q) r = true := fun q r hq hr2 z => by
          rw [gu]
          by_cases e : q = p
          · subst e; rw [u_s]; exact (hwF r hr2).mpr (hm1 q r hq hr2 z)
          · rw [u_n e]; exact z
        have hFm : ∀ q r, r < 32 → Fb S1 X q r → Fb S2 X q r := fun q r hr2 z => by
          obtain ⟨b, b1, b2⟩ := z
          refine ⟨b, b1, ?_⟩
          rw [eren, euse]
          rcases b2 with b2 | b2
          · exact Or.inl ⟨hgrow b r (hX.2.2.2.1 q b b1).2 hr2 b2.1, b2.2⟩
          · exact Or.inr b2
        refine go 1 S2 heq2 (Or.inr rfl) (fun q r hq hr2 z => ?_) (fun q r hq hr2 z => ?_) (fun z => absurd z (by decide)) (fun _ => ?_)
        · rw [gu] at z
          by_cases e : q = p
          · subst e; rw [u_s] at z; exact Fb_snd hX hb1 hs1 hr hr2 ((hwF r hr2).mp z)
          · rw [u_n e] at z; exact hs1 q r hq hr2 z
        · rw [gu] at z
          by_cases e : q = p
          · subst e; rw [u_s] at z; exact hFm q r hr2 ((hwF r hr2).mp z)
          · rw [u_n e] at z; exact hFm q r hr2 (hm1 q r hq hr2 z)
        · have hlt : muU S2 < muU S1 := by
            unfold muU
            refine sm_dec hp (fun b _ e => by rw [gu, u_n e]) ?_
            rw [gu, u_s]
            have hne : ∃ r, r < 32 ∧ ib w r = true ∧ ¬ ib (gC_usedL S1 p) r = true := by
              apply Classical.byContradiction
              intro hno
              apply c
              apply ib_ext
              intro r hr2
              cases e : ib w r
              · cases e2 : ib (gC_usedL S1 p) r
                · rfl
                · have := (hwF r hr2).mpr (hm1 p r hp hr2 e2); rw [e] at this; cases this
              · cases e2 : ib (gC_usedL S1 p) r
                · exact absurd ⟨r, hr2, e, by rw [e2]; decide⟩ hno
                · rfl
            obtain ⟨r, r1, r2, r3⟩ := hne
            have : p32 (gC_usedL S1 p) < p32 w := cnt_strict (fun j hj z => (hwF j hj).mpr (hm1 p j hp hj z)) r1 r2 r3
            have := cnt_le (fun j => ib w j = true) 32
            unfold p32 at *
            omega
          by_cases z : x1 = 0
          · rw [(h60 z).1] at hlt; exact hlt
          · exact Nat.lt_trans hlt (h61 z)
  exact ⟨_, key (cnt (rch X) 150) 0 0 S (by omega) (eqU_r S) (Or.inl rfl) hs hm (fun _ => ⟨rfl, fun j hj => by omega⟩) (fun z => absurd rfl z)⟩
theorem s_flowU {X : XT} {S : CS} (hX : XI X) (hb : RCb S X) (hw : VW S X) {post : CS → Prop} (h : ∀ S', eqU S S' → VLu S' X → post S') : wp_X2_flowUses S post := by
  unfold wp_X2_flowUses
  intro S1 e1
  have heq1 : eqU S S1 := by subst e1; exact eqU_r S
  have gu : gC_usedL S1 = fl_I 150 0 (gC_usedL S) := by subst e1; rfl
  have key : ∀ a : Int32 × Nat × CS, (eqU S a.2.2 ∧ isb a.1 ∧ sndU a.2.2 X ∧ monU a.2.2 X ∧ (a.1 = 0 → ∀ p, rch X p → cloU a.2.2 X p) ∧ (¬ a.1 = 0 → a.2.1 + muU a.2.2 ≤ 4800) ∧ a.2.1 ≤ 4801) → ∃ n, wp_X2_flowUses_12 post n a.1 (nI a.2.1) a.2.2 := by
    refine lpm (α := Int32 × Nat × CS) (fun n a => wp_X2_flowUses_12 post n a.1 (nI a.2.1) a.2.2) (fun a => eqU S a.2.2 ∧ isb a.1 ∧ sndU a.2.2 X ∧ monU a.2.2 X ∧ (a.1 = 0 → ∀ p, rch X p → cloU a.2.2 X p) ∧ (¬ a.1 = 0 → a.2.1 + muU a.2.2 ≤ 4800) ∧ a.2.1 ≤ 4801) (fun a => 4801 - a.2.1) (fun n a hI ih => ?_)
    obtain ⟨x1, t, S5⟩ := a
    dsimp only at hI ih ⊢
    obtain ⟨i1, i2, i3, i4, i5, i6, i7⟩ := hI
    show ws_X2_flowUses_12 _ post _ _ S5
    unfold ws_X2_flowUses_12
    refine brf (fun q => absurd ((xc (a := 144001) (b := t) (by omega) (by omega)).mp q) (by omega)) (br (fun c => h S5 i1 (use_end hX (eqL_b i1.1 hb) i3 (i5 c))) (fun c => ?_))
    have hmu := i6 c
    refine s_passU hX (eqL_b i1.1 hb) (eqL_w i1.1 hw) i3 i4 (fun r S6 a1 a2 a3 a4 a5 a6 => ?_)
    rw [show nI t + (1 : Int32) = nI (t + 1) from nI_1 t]
    refine ih (r, t + 1, S6) ⟨eqU_t i1 a1, a2, a3, a4, fun z => ?_, fun z => ?_, ?_⟩ ?_
    · rw [(a5 z).1]; exact (a5 z).2
    · have := a6 z
      show t + 1 + muU S6 ≤ 4800
      omega
    · show t + 1 ≤ 4801; omega
    · show 4801 - (t + 1) < 4801 - t; omega
  refine key (1, 0, S1) ⟨heq1, Or.inr rfl, fun p r hp hr z => ?_, fun p r hp hr z => ?_, fun z => absurd z (by show ¬ (1 : Int32) = 0; decide), fun _ => by have := muU_le S1; show 0 + muU S1 ≤ 4800; omega, by show 0 ≤ 4801; omega⟩
  · have z : ib (gC_usedL S1 p) r = true := z
    rw [gu, fi_lt hp, ib_0] at z; cases z
  · have z : ib (gC_usedL S1 p) r = true := z
    rw [gu, fi_lt hp, ib_0] at z; cases z
theorem s_knowLoans {S : CS} {X : XT} (hX : XI X) (hR : RC S X) {post : CS → Prop} (h : ∀ S', RC S' X → ¬ gC_wK S' = 0 → ¬ gC_lK S' = 0 → (¬ gC_eK S = 0 → ¬ gC_eK S' = 0) → post S') : wp_X6_knowLoans S post := by
  unfold wp_X6_knowLoans
  refine s_knowWays hX hR (fun S1 hR1 hw1 he1 _ => brn (fun c => h S1 hR1 hw1 c he1) (fun c => ?_))
  refine s_number hX hR1.1 (fun S2 q2 hN2 => ?_)
  have hw2 := eqL_w q2 (hR1.2.1 hw1)
  have hb2 := eqL_b q2 hR1.1
  refine s_flowH hX hb2 hN2 hw2 (fun S3 q3 hH3 => ?_)
  have hN3 := eqH_v q3 hN2
  have hw3 := eqL_w q3.1 hw2
  have hb3 := eqL_b q3.1 hb2
  refine s_flowU hX hb3 hw3 (fun S4 q4 hU4 S5 e5 => ?_)
  have hN4 : VLn S4 X := by unfold VLn at *; rw [q4.2.1, q4.2.2.1, q4.2.2.2.1, q4.2.2.2.2.2.1, q4.2.2.2.2.2.2]; exact hN3
  have hH4 : VLh S4 X := by unfold VLh at *; rw [q4.2.2.2.2.1]; exact hH3
  have hL5 : VL S5 X := by subst e5; exact ⟨hN4, hH4, hU4⟩
  have qT := eqL_t (eqL_t q2 q3.1) q4.1
  have hb5 : RCb S5 X := by have := eqL_b qT hR1.1; subst e5; exact this
  have hw5 : VW S5 X := by have := eqL_w qT (hR1.2.1 hw1); subst e5; exact this
  have hl5 : gC_lK S5 = 1 := by subst e5; rfl
  have hfl : gC_wK S5 = gC_wK S1 ∧ gC_eK S5 = gC_eK S1 := by
    subst e5
    show S4.2.2.2.2.2.1 = S1.2.2.2.2.2.1 ∧ S4.2.2.2.2.2.2.1 = S1.2.2.2.2.2.2.1
    rw [qT.2.2.2.2]; exact ⟨rfl, rfl⟩
  have hw5' : ¬ gC_wK S5 = 0 := by rw [hfl.1]; exact hw1
  refine h S5 ⟨hb5, fun _ => hw5, fun z => ?_, fun _ => ⟨hw5', hL5⟩⟩ hw5' (by rw [hl5]; decide) (by rw [hfl.2]; exact he1)
  rw [hfl.2] at z
  have := eqL_e qT (hR1.2.2.1 z).2
  exact ⟨hw5', by subst e5; exact this⟩

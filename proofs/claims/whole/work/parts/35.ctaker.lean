section CTK
variable {X : XT}
/-- only the marks of 'leading' differ -/
def eqD (S S' : CS) : Prop := ∃ f, S' = sC_leading S f
theorem eqD_r (S : CS) : eqD S S := ⟨gC_leading S, rfl⟩
theorem eqD_RC {S S' : CS} (h : eqD S S') (q : RC S X) : RC S' X := by
  obtain ⟨f, rfl⟩ := h
  exact q
theorem eqD_w {S S' : CS} (h : eqD S S') : gC_wK S' = gC_wK S ∧ gC_eK S' = gC_eK S ∧ gC_lK S' = gC_lK S ∧ gC_given S' = gC_given S ∧ gC_taken S' = gC_taken S := by
  obtain ⟨f, rfl⟩ := h
  exact ⟨rfl, rfl, rfl, rfl, rfl⟩
theorem eqD_s {S S' : CS} (h : eqD S S') (f : Nat → Int32) : eqD S (sC_leading S' f) := by
  obtain ⟨g, rfl⟩ := h
  exact ⟨f, rfl⟩
theorem s_leadsOn {S : CS} (hX : XI X) (hb : RCb S X) {q : Nat} (hq : q < 150) {post : Int32 → CS → Prop} (h : post (bi (∃ b, x_ed X q b = true ∧ ¬ gC_leading S b = 0)) S) : wp_X1_leadsOn S (nI q) post := by
  have hc := hX.2.2.2.2.1 q hq
  obtain ⟨m1, m2, m3, m4⟩ := hb.2.2.2 q hq
  have key : ∀ (k i : Nat), i + k = x_cn X q → (∀ j b, j < i → b < 150 → gC_nexts S (4 * q + j) = nI b → gC_leading S b = 0) → wp_X1_leadsOn_2 post (k + 1) (nI q) (nI i) S := by
    intro k
    induction k with
    | zero =>
      intro i hi hbf
      show ws_X1_leadsOn_2 _ post _ _ S
      unfold ws_X1_leadsOn_2
      refine s_nextCount hq ?_
      rw [m1]
      refine brt ((xc (by omega) (by omega)).mpr (by omega)) (lf0 h ?_)
      rintro ⟨b, b1, b2⟩
      obtain ⟨j, j1, j2⟩ := m3 b b1
      exact b2 (hbf j b (by omega) (hX.2.2.2.1 q b b1).2 j2)
    | succ k ih =>
      intro i hi hbf
      show ws_X1_leadsOn_2 _ post _ _ S
      unfold ws_X1_leadsOn_2
      refine s_nextCount hq ?_
      rw [m1]
      refine brf (fun z => absurd ((xc (by omega) (by omega)).mp z) (by omega)) (s_nextOf hq (by omega) ?_)
      obtain ⟨b, b1, b2, b3⟩ := m2 i (by omega)
      rw [b2, n_cl (by omega)]
      refine ⟨vp_in_nI (by omega) (by omega), br (fun c x2 e2 => ?_) (fun c => lf1 h ⟨b, b3, c⟩)⟩
      subst e2
      rw [show nI i + (1 : Int32) = nI (i + 1) from nI_1 i]
      refine ih (i + 1) (by omega) (fun j b' hj hb' e => ?_)
      by_cases ej : j = i
      · subst ej
        have := n_inj (by omega) (by omega) (e.symm.trans b2)
        subst this; exact c
      · exact hbf j b' (by omega) hb' e
  exact ⟨_, key (x_cn X q) 0 (by omega) (fun j b hj => by omega)⟩
noncomputable def nld (S : CS) : Nat := cnt (fun q => ¬ gC_leading S q = 0) 150
theorem one_bit {w x : Int64} {k : Nat} (hk : k < 64) (hx : ∀ i, i < 64 → lb x i = decide (i = k)) : lg_cmp (w &&& x) 0 = 0 ↔ lb w k = false := by
  rw [cmp0, lb_z]
  constructor
  · intro z
    have := z k hk
    rw [lb_and, hx k hk, decide_eq_true rfl, Bool.and_true] at this
    exact this
  · intro z i hi
    rw [lb_and, hx i hi]
    by_cases e : i = k
    · subst e; rw [z]; rfl
    · rw [decide_eq_false e, Bool.and_false]
theorem s_findLeading {S : CS} (hX : XI X) (hR : RC S X) (hw1 : ¬ gC_wK S = 0) {p v f : Nat} (hp : p < 150) (hv : v < x_nv X) (hf : f < x_lv X v) {x2 : Int64} (hx2 : ∀ i, i < 64 → lb x2 i = decide (i = 4 * v + f)) {post : CS → Prop} (h : ∀ S', eqD S S' → (∀ q, q < 150 → (¬ gC_leading S' q = 0 ↔ lead X p v f q)) → post S') : wp_X1_findLeading S (nI p) x2 post := by
  have hn := hX.1
  have hl4 := (hX.2.1 v hv).2.2.1
  have hle := cnt_le (rch X) 150
  unfold wp_X1_findLeading
  intro S1 e1
  rw [n_cl (by omega)]
  refine ⟨vp_in_nI (by omega) (by omega), fun S2 e2 => ?_⟩
  have gl2 : gC_leading S2 = upd (fl_I 150 0 (gC_leading S)) p 1 := by subst e2; subst e1; rfl
  have hD2 : eqD S S2 := by subst e2; subst e1; exact ⟨_, rfl⟩
  have hs2 : ∀ q, q < 150 → ¬ gC_leading S2 q = 0 → lead X p v f q := fun q hq z => by
    rw [gl2] at z
    by_cases e : q = p
    · subst e; exact fun C h0 _ => h0
    · rw [u_n e, fi_lt hq] at z; exact absurd rfl z
  have hp2 : ¬ gC_leading S2 p = 0 := by rw [gl2, u_s]; decide
  -- a pass
  have pass : ∀ (S3 : CS) (K : Int64 → Int32 → Int32 → CS → Prop) (x5 : Int32), eqD S S3 → (∀ q, q < 150 → ¬ gC_leading S3 q = 0 → lead X p v f q) → ¬ gC_leading S3 p = 0 → (∀ (r : Int32) S', eqD S S' → isb r → (∀ q, q < 150 → ¬ gC_leading S' q = 0 → lead X p v f q) → ¬ gC_leading S' p = 0 → (r = 0 → S' = S3 ∧ ∀ a b, rch X a → ¬ gv X a v f → x_ed X a b = true → ¬ gC_leading S3 b = 0 → ¬ gC_leading S3 a = 0) → (¬ r = 0 → nld S3 < nld S') → K x2 r (x5 + 1) S') → ∃ n_, wp_X1_findLeading_40 K post n_ x2 0 x5 0 S3 := by
    intro S3 K x5 hD3 hs3 hp3 hK
    have key : ∀ (k i : Nat) (x4 : Int32) (S4 : CS), i + k = cnt (rch X) 150 → eqD S S4 → isb x4 → (∀ q, q < 150 → ¬ gC_leading S4 q = 0 → lead X p v f q) → ¬ gC_leading S4 p = 0 → (x4 = 0 → S4 = S3 ∧ ∀ j, j < i → ∀ a, a < 150 → gC_order S j = nI a → ∀ b, ¬ gv X a v f → x_ed X a b = true → ¬ gC_leading S3 b = 0 → ¬ gC_leading S3 a = 0) → (¬ x4 = 0 → nld S3 < nld S4) → (nld S3 ≤ nld S4) → wp_X1_findLeading_40 K post (k + 1) x2 x4 x5 (nI i) S4 := by
      intro k
      induction k with
      | zero =>
        intro i x4 S4 hi hD4 h4 hs4 hp4 h40 h41 _
        have hR4 := eqD_RC hD4 hR
        have hw4 := hR4.2.1 (by rw [(eqD_w hD4).1]; exact hw1)
        have hre : gC_reached S4 = nI (cnt (rch X) 150) := by obtain ⟨⟨n, h1, h2, h3, _⟩, _⟩ := hw4; rw [h2, h3]
        show ws_X1_findLeading_40 _ K post _ _ _ _ S4
        unfold ws_X1_findLeading_40
        refine s_size5 ?_
        rw [hre]
        refine brt ((xc (by omega) (by omega)).mpr (by omega)) (fun x5' e5 => ?_)
        subst e5
        refine hK x4 S4 hD4 h4 hs4 hp4 (fun z => ⟨(h40 z).1, fun a b ha hg he hb => ?_⟩) h41
        obtain ⟨⟨n, h1, h2, h3, h4', h5⟩, _⟩ := hR.2.1 hw1
        obtain ⟨j, j1, j2⟩ := h5 a ha
        exact (h40 z).2 j (by omega) a (rch_lt hX ha) j2 b hg he hb
      | succ k ih =>
        intro i x4 S4 hi hD4 h4 hs4 hp4 h40 h41 hge
        have hR4 := eqD_RC hD4 hR
        have hb4 := hR4.1
        have hw4 := hR4.2.1 (by rw [(eqD_w hD4).1]; exact hw1)
        have hre : gC_reached S4 = nI (cnt (rch X) 150) := by obtain ⟨⟨n, h1, h2, h3, _⟩, _⟩ := hw4; rw [h2, h3]
        show ws_X1_findLeading_40 _ K post _ _ _ _ S4
        unfold ws_X1_findLeading_40
        refine s_size5 ?_
        rw [hre]
        refine brf (fun z => absurd ((xc (by omega) (by omega)).mp z) (by omega)) (s_fromE hw4 (by omega) (fun a ha hra ho => ?_))
        have ho' : gC_order S i = nI a := by obtain ⟨g, rfl⟩ := hD4; exact ho
        rw [n_cl (by omega)]
        have hva : vp_in (nI a) 150 := vp_in_nI (by omega) (by omega)
        have d2 := ((hb4.2.2.1 a ha).2.1 v f hv hf).1
        have go : ∀ (x4' : Int32) S5, eqD S S5 → isb x4' → (∀ q, q < 150 → ¬ gC_leading S5 q = 0 → lead X p v f q) → ¬ gC_leading S5 p = 0 → (x4' = 0 → S5 = S3 ∧ ∀ j, j < i + 1 → ∀ a, a < 150 → gC_order S j = nI a → ∀ b, ¬ gv X a v f → x_ed X a b = true → ¬ gC_leading S3 b = 0 → ¬ gC_leading S3 a = 0) → (¬ x4' = 0 → nld S3 < nld S5) → (nld S3 ≤ nld S5) → wp_X1_findLeading_109 (wp_X1_findLeading_40 K post (k + 1)) post x2 x4' x5 (nI i) S5 := by
          intro x4' S5 b1 b2 b3 b4 b5 b6 b7
          unfold wp_X1_findLeading_109
          intro x6 e6
          subst e6
          rw [show nI i + (1 : Int32) = nI (i + 1) from nI_1 i]
          exact ih (i + 1) x4' S5 (by omega) b1 b2 b3 b4 b5 b6 b7
        have stay : (∀ b, ¬ gv X a v f → x_ed X a b = true → ¬ gC_leading S4 b = 0 → ¬ gC_leading S4 a = 0) → wp_X1_findLeading_109 (wp_X1_findLeading_40 K post (k + 1)) post x2 x4 x5 (nI i) S4 := fun hcl => by
          refine go x4 S4 hD4 h4 hs4 hp4 (fun z => ⟨(h40 z).1, fun j hj a' ha' hoa => ?_⟩) h41 hge
          by_cases ej : j = i
          · subst ej
            have := n_inj (by omega) (by omega) (hoa.symm.trans ho')
            subst this
            rw [(h40 z).1] at hcl
            exact hcl
          · exact (h40 z).2 j (by omega) a' ha' hoa
        refine ⟨hva, brn (fun c => stay (fun b _ _ _ => c)) (fun c => s_givenAt ha (brn (fun c2 => stay (fun b hg _ _ => ?_)) (fun c2 => ?_)))⟩
        · refine absurd (d2.mp ?_) hg
          cases e : lb (gC_given S4 a) (4 * v + f)
          · exact absurd ((one_bit (by omega) hx2).mpr e) c2
          · rfl
        · have hng : ¬ gv X a v f := fun z => by
            have := (one_bit (by omega) hx2).mp c2
            rw [d2.mpr z] at this; cases this
          refine s_leadsOn hX hb4 ha (bi_br (fun c3 => ⟨hva, fun S5 e5 => ?_⟩) (fun c3 => stay (fun b _ he hb => absurd ⟨b, he, hb⟩ c3)))
          have gl5 : gC_leading S5 = upd (gC_leading S4) a 1 := by subst e5; rfl
          have hD5 : eqD S S5 := by subst e5; exact eqD_s hD4 _
          obtain ⟨b, b1, b2⟩ := c3
          have hnl : nld S4 < nld S5 := by
            unfold nld
            refine cnt_strict (fun q _ z => ?_) ha (by rw [gl5, u_s]; decide) (fun z => z c)
            rw [gl5]
            by_cases e : q = a
            · subst e; rw [u_s]; decide
            · rw [u_n e]; exact z
          refine go 1 S5 hD5 (Or.inr rfl) (fun q hq z => ?_) ?_ (fun z => absurd z (by decide)) (fun _ => by omega) (by omega)
          · rw [gl5] at z
            by_cases e : q = a
            · subst e
              have hlb := hs4 b (hX.2.2.2.1 q b b1).2 b2
              exact fun C h0 h1 => h1 q b (hlb C h0 h1) hra hng b1
            · rw [u_n e] at z; exact hs4 q hq z
          · rw [gl5]
            by_cases e : p = a
            · rw [e, u_s]; decide
            · rw [u_n e]; exact hp4
    exact ⟨_, key (cnt (rch X) 150) 0 0 S3 (by omega) hD3 (Or.inl rfl) hs3 hp3 (fun _ => ⟨rfl, fun j hj => by omega⟩) (fun z => absurd rfl z) (Nat.le_refl _)⟩
  have hend : ∀ S3, eqD S S3 → (∀ q, q < 150 → ¬ gC_leading S3 q = 0 → lead X p v f q) → ¬ gC_leading S3 p = 0 → (∀ a b, rch X a → ¬ gv X a v f → x_ed X a b = true → ¬ gC_leading S3 b = 0 → ¬ gC_leading S3 a = 0) → post S3 := fun S3 a1 a2 a3 a4 => h S3 a1 (fun q hq => ⟨a2 q hq, fun z => z (fun q => ¬ gC_leading S3 q = 0) a3 (fun a b hb ha hg he => a4 a b ha hg he hb)⟩)
  have outer : ∀ a : Int32 × Nat × CS, (eqD S a.2.2 ∧ isb a.1 ∧ (∀ q, q < 150 → ¬ gC_leading a.2.2 q = 0 → lead X p v f q) ∧ ¬ gC_leading a.2.2 p = 0 ∧ (a.1 = 0 → ∀ c b, rch X c → ¬ gv X c v f → x_ed X c b = true → ¬ gC_leading a.2.2 b = 0 → ¬ gC_leading a.2.2 c = 0) ∧ (¬ a.1 = 0 → a.2.1 + 1 ≤ nld a.2.2) ∧ a.2.1 ≤ 150) → ∃ n, wp_X1_findLeading_21 post n x2 a.1 (nI a.2.1) a.2.2 := by
    refine lpm (α := Int32 × Nat × CS) (fun n a => wp_X1_findLeading_21 post n x2 a.1 (nI a.2.1) a.2.2) (fun a => eqD S a.2.2 ∧ isb a.1 ∧ (∀ q, q < 150 → ¬ gC_leading a.2.2 q = 0 → lead X p v f q) ∧ ¬ gC_leading a.2.2 p = 0 ∧ (a.1 = 0 → ∀ c b, rch X c → ¬ gv X c v f → x_ed X c b = true → ¬ gC_leading a.2.2 b = 0 → ¬ gC_leading a.2.2 c = 0) ∧ (¬ a.1 = 0 → a.2.1 + 1 ≤ nld a.2.2) ∧ a.2.1 ≤ 150) (fun a => 150 - a.2.1) (fun n a hI ih => ?_)
    obtain ⟨x4, t, S5⟩ := a
    dsimp only at hI ih ⊢
    obtain ⟨i1, i2, i3, i4, i5, i6, i7⟩ := hI
    show ws_X1_findLeading_21 _ post _ _ _ S5
    unfold ws_X1_findLeading_21
    have hnl : nld S5 ≤ 150 := cnt_le _ _
    have hfin : x4 = 0 → post S5 := fun c => hend S5 i1 i3 i4 (i5 c)
    refine br (fun c => hfin (Classical.byContradiction (fun z => ?_))) (fun c2 => br hfin (fun c => ?_))
    · have := i6 z
      have := (xc (a := 150) (b := t) (by omega) (by omega)).mp c
      omega
    · have hm := i6 c
      refine pass S5 _ (nI t) i1 i3 i4 (fun r S6 a1 a2 a3 a4 a5 a6 => ?_)
      rw [show nI t + (1 : Int32) = nI (t + 1) from nI_1 t]
      refine ih (r, t + 1, S6) ⟨a1, a2, a3, a4, fun z => ?_, fun z => ?_, ?_⟩ ?_
      · rw [(a5 z).1]; exact (a5 z).2
      · have := a6 z
        show t + 1 + 1 ≤ nld S6
        omega
      · show t + 1 ≤ 150; omega
      · show 150 - (t + 1) < 150 - t; omega
  refine outer (1, 0, S2) ⟨hD2, Or.inr rfl, hs2, hp2, fun z => absurd z (by show ¬ (1 : Int32) = 0; decide), fun _ => ?_, by show 0 ≤ 150; omega⟩
  show 0 + 1 ≤ nld S2
  have := cnt_lt_of (P := fun q => ¬ gC_leading S2 q = 0) hp hp2
  unfold nld
  omega
theorem lfl_spec {X : XT} (hX : XI X) {p : Nat} (hp : p < 150) (h : lks X p) : lck X p (lfl X p) ∧ (∀ f, f < lfl X p → ¬ lck X p f) ∧ lfl X p < 4 := by
  obtain ⟨_, f, hf⟩ := h
  have ho := ok_of (hX.2.2.1 p hp) hf.1
  have h4 := (hX.2.1 _ ho).2.2.1
  unfold lfl
  rcases lea_cases (lck X p) 4 with ⟨k, k1, k2, k3, k4⟩ | ⟨k1, _⟩
  · rw [k4, n_cl (by omega)]; exact ⟨k2, k3, k1⟩
  · exact absurd hf (k1 f (by have := hf.2.1; omega))
theorem s_leastTaker {S : CS} (hX : XI X) (hR : RC S X) (hw1 : ¬ gC_wK S = 0) (he1 : ¬ gC_eK S = 0) {p : Nat} (hp : p < 150) (hl : lks X p) {post : Int32 → CS → Prop} (h : ∀ S', eqD S S' → post (tkr X p) S') : wp_X1_leastTaker S (nI p) post := by
  have hn := hX.1
  obtain ⟨hk1, hk2, hk3⟩ := lfl_spec hX hp hl
  have hk := hX.2.2.1 p hp
  have ho := ok_of hk hk1.1
  have hl4 := (hX.2.1 _ ho).2.2.1
  have hf := hk1.2.1
  unfold wp_X1_leastTaker
  refine s_missing hX hR hw1 he1 hp (fun w hw x4 e4 => ?_)
  have hlow : lb w (4 * x_of X p + lfl X p) = true := (hw _ (by omega)).mpr ⟨hl.1, _, rfl, hk1⟩
  have hbel : ∀ j, j < 4 * x_of X p + lfl X p → lb w j = false := fun j hj => by
    cases e : lb w j
    · rfl
    · obtain ⟨_, f, f1, f2⟩ := (hw j (by omega)).mp e
      exact absurd f2 (hk2 f (by omega))
  have hx4 : ∀ i, i < 64 → lb x4 i = decide (i = 4 * x_of X p + lfl X p) := fun i hi => by rw [e4]; exact lb_low hlow hbel (by omega) hi
  refine s_findLeading hX hR hw1 hp ho hf hx4 (fun S1 hD1 hld1 => ?_)
  have hR1 := eqD_RC hD1 hR
  have hb1 := hR1.1
  have hw1' := hR1.2.1 (by rw [(eqD_w hD1).1]; exact hw1)
  have hpost := h S1 hD1
  unfold tkr at hpost
  have key : ∀ (k i : Nat), i + k = 150 → (∀ q, q < i → ¬ (rch X q ∧ tk X q (x_of X p) (lfl X p) ∧ ldo X p (x_of X p) (lfl X p) q)) → wp_X1_leastTaker_22 post (k + 1) x4 (nI i) S1 := by
    intro k
    induction k with
    | zero =>
      intro i hi hbf
      show ws_X1_leastTaker_22 _ post _ _ S1
      unfold ws_X1_leastTaker_22
      refine brt ((xc (a := 150) (b := i) (by omega) (by omega)).mpr (by omega)) ?_
      rw [lea_no (fun j hj => hbf j (by omega))] at hpost
      exact hpost
    | succ k ih =>
      intro i hi hbf
      show ws_X1_leastTaker_22 _ post _ _ S1
      unfold ws_X1_leastTaker_22
      have hi1 : i < 150 := by omega
      have d2 := ((hb1.2.2.1 i hi1).2.1 (x_of X p) (lfl X p) ho hf).2
      have hnx : ¬ (rch X i ∧ tk X i (x_of X p) (lfl X p) ∧ ldo X p (x_of X p) (lfl X p) i) → wp_X1_leastTaker_71 (wp_X1_leastTaker_22 post (k + 1)) post x4 (nI i) S1 := fun z => by
        unfold wp_X1_leastTaker_71
        intro x6 e6
        subst e6
        rw [show nI i + (1 : Int32) = nI (i + 1) from nI_1 i]
        refine ih (i + 1) (by omega) (fun q hq => ?_)
        by_cases e : q = i
        · subst e; exact z
        · exact hbf q (by omega)
      refine brf (fun q => absurd ((xc (a := 150) (b := i) (by omega) (by omega)).mp q) (by omega)) (s_comeTo hw1' hi1 (bi_br (fun c => s_takenAt hi1 (br (fun c2 => hnx (fun z => ?_)) (fun c2 => s_leadsOn hX hb1 hi1 (bi_br (fun c3 => ?_) (fun c3 => hnx (fun z => c3 ?_)))))) (fun c => hnx (fun z => c z.1))))
      · have := (one_bit (by omega) hx4).mp c2
        rw [d2.mpr z.2.1] at this; cases this
      · have htk : tk X i (x_of X p) (lfl X p) := by
          refine d2.mp ?_
          cases e : lb (gC_taken S1 i) (4 * x_of X p + lfl X p)
          · exact absurd ((one_bit (by omega) hx4).mpr e) c2
          · rfl
        obtain ⟨b, b1, b2⟩ := c3
        have hld : ldo X p (x_of X p) (lfl X p) i := ⟨b, b1, (hld1 b (hX.2.2.2.1 i b b1).2).mp b2⟩
        rw [lea_eq hi1 ⟨c, htk, hld⟩ hbf] at hpost
        exact hpost
      · obtain ⟨b, b1, b2⟩ := z.2.2
        exact ⟨b, b1, (hld1 b (hX.2.2.2.1 i b b1).2).mpr b2⟩
  exact ⟨_, key 150 0 (by omega) (fun q hq => by omega)⟩
theorem lks_lea : lea (lks X) 150 = -1 ↔ ¬ ∃ p, p < 150 ∧ lks X p := by
  rcases lea_cases (lks X) 150 with ⟨k, h1, h2, h3, h4⟩ | ⟨h1, h2⟩
  · rw [h4]; exact ⟨fun e => absurd e (n_m1 (by omega)), fun e => absurd ⟨k, h1, h2⟩ e⟩
  · rw [h2]; exact ⟨fun _ ⟨p, q1, q2⟩ => h1 p q1 q2, fun _ => rfl⟩
theorem clp_lea2 : lea (clp X) 150 = -1 ↔ ¬ ∃ p, p < 150 ∧ clp X p := by
  rcases lea_cases (clp X) 150 with ⟨k, h1, h2, h3, h4⟩ | ⟨h1, h2⟩
  · rw [h4]; exact ⟨fun e => absurd e (n_m1 (by omega)), fun e => absurd ⟨k, h1, h2⟩ e⟩
  · rw [h2]; exact ⟨fun _ ⟨p, q1, q2⟩ => h1 p q1 q2, fun _ => rfl⟩
theorem c_judge {S : CS} (hX : XI X) (hR : RC S X) {post : Int32 → CS → Prop} (h : ∀ S', RC S' X → post (kd X) S') : wp_X6_judge S post := by
  unfold kd at h
  unfold wp_X6_judge
  refine s_knowLeaves hX hR (fun S1 hR1 hw1 he1 _ => s_leastUnheld hX hR1 hw1 he1 (br (fun c => ?_) (fun c => ?_)))
  · have hno := lks_lea.mp c
    refine s_knowLoans hX hR1 (fun S2 hR2 hw2 hl2 _ => s_leastClashing hX hR2 hl2 ?_)
    have hp := h S2 hR2
    rw [if_neg hno] at hp
    refine br (fun c2 => ?_) (fun c2 => ?_)
    · rw [if_neg (clp_lea2.mp c2)] at hp; exact hp
    · rw [if_pos (Classical.byContradiction (fun z => c2 (clp_lea2.mpr z)))] at hp; exact hp
  · have hp := h S1 hR1
    rw [if_pos (Classical.byContradiction (fun z => c (lks_lea.mpr z)))] at hp; exact hp
/-- what fault(1), fault(2) answer -/
noncomputable def fan (X : XT) (x : Int32) : Int32 := @ite _ (kd X = 0) (Classical.propDecidable _) (-1) (@ite _ (x = 1) (Classical.propDecidable _) (fp X) (@ite _ (x = 2) (Classical.propDecidable _) (op X) (-1)))
theorem c_fault {S : CS} (hX : XI X) (hR : RC S X) {x1 : Int32} {post : Int32 → CS → Prop} (h : ∀ S', RC S' X → post (fan X x1) S') : wp_X6_fault S x1 post := by
  have h12 : (x1 = 1 ∨ x1 = 2) → wp_X6_fault_12 post x1 S := fun hx => by
    unfold wp_X6_fault_12
    refine s_knowLeaves hX hR (fun S1 hR1 hw1 he1 _ => s_leastUnheld hX hR1 hw1 he1 (br (fun c => ?_) (fun c => ?_)))
    · have hno := lks_lea.mp c
      refine s_knowLoans hX hR1 (fun S2 hR2 hw2 hl2 _ => s_leastClashing hX hR2 hl2 ?_)
      have hp := h S2 hR2
      unfold fan kd fp op at hp
      rw [if_neg hno, if_neg hno, if_neg hno] at hp
      refine brn (fun c2 => ?_) (fun c2 => ?_)
      · rw [if_pos (Classical.byContradiction (fun z => c2 (clp_lea2.mpr z))), if_neg (by decide)] at hp
        rcases lea_cases (clp X) 150 with ⟨k, k1, k2, k3, k4⟩ | ⟨k1, k2⟩
        · rw [k4] at hp ⊢
          refine brn (fun c3 => s_leastClash hX hR2 hl2 k1 ?_) (fun c3 => ?_)
          · rw [if_neg c3, if_pos (hx.resolve_left c3), n_cl (by omega)] at hp; exact hp
          · rw [if_pos c3] at hp; exact hp
        · exact absurd k2 c2
      · rw [if_neg (clp_lea2.mp c2), if_pos rfl] at hp; exact hp
    · have hyes := Classical.byContradiction (fun z => c (lks_lea.mpr z))
      rcases lea_cases (lks X) 150 with ⟨k, k1, k2, k3, k4⟩ | ⟨k1, k2⟩
      · rw [k4]
        refine brn (fun c3 => s_leastTaker hX hR1 hw1 he1 k1 k2 (fun S2 hD2 => ?_)) (fun c3 => ?_)
        · have hp := h S2 (eqD_RC hD2 hR1)
          unfold fan kd fp op at hp
          rw [if_pos hyes, if_neg (by decide), if_neg c3, if_pos (hx.resolve_left c3), if_pos hyes, k4, n_cl (by omega)] at hp
          exact hp
        · have hp := h S1 hR1
          unfold fan kd fp op at hp
          rw [if_pos hyes, if_neg (by decide), if_pos c3, if_pos hyes, k4] at hp
          exact hp
      · exact absurd k2 c
  unfold wp_X6_fault
  refine br (fun c => h12 (Or.inl c)) (fun c => br (fun c2 => h12 (Or.inr c2)) (fun c2 => ?_))
  have hp := h S hR
  unfold fan at hp
  rw [if_neg c, if_neg c2] at hp
  by_cases hk : kd X = 0
  · rw [if_pos hk] at hp; exact hp
  · rw [if_neg hk] at hp; exact hp
end CTK

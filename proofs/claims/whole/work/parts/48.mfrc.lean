section MFR
variable {M : MS} {X : XT} {p : Nat}
theorem m_isUsed (hX : XI X) (hb : RMb M X) (hw : VMw M X) (hu : VMu M X) (hp : p < 150) {r : Nat} (hr : r < x_nv X) (hrs : x_so X r ≠ 0) {post : Int32 → MS → Prop} (h : post (bi (rch X p ∧ ¬ rn X p r ∧ usd X r p)) M) : wp_X7_isUsed M (nI p) (nI r) post := by
  have hn := hX.1
  unfold wp_X7_isUsed
  rw [n_cl (by omega), hw p hp]
  refine ⟨vp_in_nI (by omega) (by omega), bi_br (fun c => m_renews hX hb hp hr (bi_brn (fun c2 => lf0 h (fun z => z.2.1 c2)) (fun c2 => ?_))) (fun c => lf0 h (fun z => c z.1))⟩
  rw [n_16m, n_cl (by omega), hu p r hp hr hrs]
  exact ⟨vp_in_nI (by omega) (by omega), bi_br (fun c3 => lf1 h ⟨c, c2, c3⟩) (fun c3 => lf0 h (fun z => c3 z.2.2))⟩
theorem m_isInForce (hX : XI X) (hb : RMb M X) (hw : VMw M X) (hu : VMu M X) (hh : VMh M X) (hp : p < 150) {L : Nat} (hL : L < 150) (hml : ml X L) {post : Int32 → MS → Prop} (h : post (bi (frc X L p)) M) : wp_X7_isInForce M (nI L) (nI p) post := by
  have hn := hX.1
  have hrow := (hh L hL).2 hml
  have h60 : cnt (ml X) L < 60 := Nat.lt_of_lt_of_le (cnt_lt_of (P := ml X) (a := L) (b := 150) hL hml) (ml_60 hX)
  have key : ∀ (k i : Nat), i + k = x_nv X → wp_X7_isInForce_5 post (k + 1) (nI L) (nI p) (bi (∃ r, r < i ∧ x_so X r ≠ 0 ∧ hld X L p r ∧ rch X p ∧ ¬ rn X p r ∧ usd X r p)) (nI i) M := by
    intro k
    induction k with
    | zero =>
      intro i hi
      show ws_X7_isInForce_5 _ post _ _ _ _ M
      unfold ws_X7_isInForce_5
      rw [hb.1.1, n_cl (by omega), hw p hp]
      refine brt ((xc (by omega) (by omega)).mpr (by omega)) (bi_br (fun c => ⟨vp_in_nI (by omega) (by omega), bi_br (fun c2 => lf1 h ?_) (fun c2 => lf0 h (fun z => c2 z.1))⟩) (fun c => lf0 h ?_))
      · obtain ⟨r, r1, r2, r3, r4, r5, r6⟩ := c
        exact ⟨c2, r, by omega, r2, r3, r5, r6⟩
      · rintro ⟨z, r, r1, r2, r3, r5, r6⟩
        exact c ⟨r, by omega, r2, r3, z, r5, r6⟩
    | succ k ih =>
      intro i hi
      have ih := ih (i + 1) (by omega)
      show ws_X7_isInForce_5 _ post _ _ _ _ M
      unfold ws_X7_isInForce_5
      have hi1 : i < x_nv X := by omega
      have h4 := hX.2.1 i hi1
      have h64 : ∀ x, x = bi (∃ r, r < i + 1 ∧ x_so X r ≠ 0 ∧ hld X L p r ∧ rch X p ∧ ¬ rn X p r ∧ usd X r p) → wp_X7_isInForce_64 (wp_X7_isInForce_5 post (k + 1)) post (nI L) (nI p) (nI i) x M := fun x ex => by
        unfold wp_X7_isInForce_64
        intro y ey
        subst ey; subst ex
        rw [show nI i + (1 : Int32) = nI (i + 1) from nI_1 i]
        exact ih
      have y1 : (∃ r, r < i + 1 ∧ x_so X r ≠ 0 ∧ hld X L p r ∧ rch X p ∧ ¬ rn X p r ∧ usd X r p) → wp_X7_isInForce_59 (fun x1 x2 x4 k0 S => wp_X7_isInForce_64 (wp_X7_isInForce_5 post (k + 1)) post x1 x2 x4 k0 S) post (nI L) (nI p) (nI i) M := fun z => by
        unfold wp_X7_isInForce_59
        exact h64 1 (bi_t z).symm
      have y0 : (¬ ∃ r, r < i + 1 ∧ x_so X r ≠ 0 ∧ hld X L p r ∧ rch X p ∧ ¬ rn X p r ∧ usd X r p) → wp_X7_isInForce_63 (fun x1 x2 x4 k0 S => wp_X7_isInForce_64 (wp_X7_isInForce_5 post (k + 1)) post x1 x2 x4 k0 S) post (nI L) (nI p) (nI i) M := fun z => by
        unfold wp_X7_isInForce_63
        exact h64 0 (bi_f z).symm
      rw [hb.1.1, n_cl (j := i) (by omega), (hb.1.2 i hi1).1, ek0 (by omega)]
      refine brf (fun q => absurd ((xc (by omega) (by omega)).mp q) (by omega)) (bi_brn (fun c => y1 ?_) (fun c => ⟨vp_in_nI (by omega) (by omega), br (fun c0 => y0 ?_) (fun c0 => ⟨vp_in_nI (by omega) (by omega), ?_⟩)⟩))
      · obtain ⟨r, r1, r2⟩ := c
        exact ⟨r, by omega, r2⟩
      · rintro ⟨r, r1, r2⟩
        by_cases e : r = i
        · subst e; exact r2.1 c0
        · exact c ⟨r, by omega, r2⟩
      · rw [n_cl (by omega), hrow.1]
        unfold wp_X7_cell
        rw [n_cell]
        dsimp only
        rw [n_cl (j := 2400 * cnt (ml X) L + (16 * p + i)) (by omega), ← Nat.add_assoc, hrow.2 p i hp (by omega)]
        refine ⟨vp_in_nI (by omega) (by omega), bi_br (fun c1 => m_isUsed hX hb hw hu hp hi1 c0 (bi_br (fun c2 => y1 ⟨i, by omega, c0, c1, c2⟩) (fun c2 => y0 ?_))) (fun c1 => y0 ?_)⟩
        · rintro ⟨r, r1, r2⟩
          by_cases e : r = i
          · subst e; exact c2 r2.2.2
          · exact c ⟨r, by omega, r2⟩
        · rintro ⟨r, r1, r2⟩
          by_cases e : r = i
          · subst e; exact c1 r2.2.1
          · exact c ⟨r, by omega, r2⟩
  have := key (x_nv X) 0 (by omega)
  rw [bi_f (fun ⟨r, r1, _⟩ => by omega)] at this
  exact ⟨_, this⟩
theorem m_lackedBy (hX : XI X) (hb : RMb M X) (he : VMe M X) (hp : p < 150) {post : Int32 → MS → Prop} (h : post (lea (lck X p) 4) M) : wp_X7_lackedBy M (nI p) post := by
  have hn := hX.1
  have hk := hX.2.2.1 p hp
  have ha8 := ok_ac hk
  have hvp : vp_in (nI p) 150 := vp_in_nI (by omega) (by omega)
  obtain ⟨a1, a2, a3⟩ := hb.2.1 p hp
  unfold wp_X7_lackedBy
  rw [n_cl (by omega), a1, ek0 (by omega)]
  refine ⟨hvp, brn (fun c0 => ?_) (fun c0 => ?_)⟩
  · have ho := ok_of hk c0
    have h4 := hX.2.1 _ ho
    have key : ∀ (k i : Nat), i + k = x_lv X (x_of X p) → (∀ j, j < i → ¬ lck X p j) → wp_X7_lackedBy_13 post (k + 1) (nI p) (nI i) M := by
      intro k
      induction k with
      | zero =>
        intro i hi hj
        show ws_X7_lackedBy_13 _ post _ _ M
        unfold ws_X7_lackedBy_13
        rw [n_cl (j := p) (by omega), (a2 c0).1, n_cl (by omega), (hb.1.2 _ ho).2.1]
        refine ⟨hvp, vp_in_nI (by omega) (by omega), brt ((xc (by omega) (by omega)).mpr (by omega)) ?_⟩
        rw [lea_no (fun k _ z => hj k (by have := z.2.1; omega) z)] at h
        exact h
      | succ k ih =>
        intro i hi hj
        show ws_X7_lackedBy_13 _ post _ _ M
        unfold ws_X7_lackedBy_13
        have inc : ¬ lck X p i → wp_X7_lackedBy_62 (wp_X7_lackedBy_13 post (k + 1)) post (nI p) (nI i) M := fun z => by
          unfold wp_X7_lackedBy_62
          intro y ey
          subst ey
          rw [show nI i + (1 : Int32) = nI (i + 1) from nI_1 i]
          refine ih (i + 1) (by omega) (fun j hji => ?_)
          by_cases e : j = i
          · subst e; exact z
          · exact hj j (by omega)
        rw [n_cl (j := p) (by omega), (a2 c0).1, n_cl (by omega), (hb.1.2 _ ho).2.1]
        refine ⟨hvp, vp_in_nI (by omega) (by omega), brf (fun q => absurd ((xc (by omega) (by omega)).mp q) (by omega)) (m_wants hX hb hp (by omega) (bi_br (fun cw => ?_) (fun cw => inc (fun z => cw z.2.2.1))))⟩
        rw [(a2 c0).1, show (64 : Int32) * nI p + (4 : Int32) * nI (x_of X p) + nI i = nI (64 * p + 4 * x_of X p + i) by rw [show (4 : Int32) * nI (x_of X p) = nI (4 * x_of X p) from pk_mul 4 _, n_64, nI_add], n_cl (by omega), (he p (x_of X p) i hp ho (by omega)).1]
        refine ⟨hvp, vp_in_nI (by omega) (by omega), bi_br (fun cl => ?_) (fun cl => inc (fun z => cl z.2.2.2))⟩
        rw [lea_eq (k := i) (by omega) ⟨c0, by omega, cw, cl⟩ hj] at h
        exact h
    exact ⟨_, key (x_lv X (x_of X p)) 0 (by omega) (fun j hj => by omega)⟩
  · rw [lea_no (fun k _ z => z.1 c0)] at h
    exact h
end MFR

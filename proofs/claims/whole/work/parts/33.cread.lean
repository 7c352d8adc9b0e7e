section CRD
variable {S : CS} {X : XT}
theorem s_comeTo (hw : VW S X) {p : Nat} (hp : p < 150) {post : Int32 → CS → Prop} (h : post (bi (rch X p)) S) : wp_X5_comeTo S (nI p) post := by
  unfold wp_X5_comeTo
  rw [n_cl (by omega)]
  refine ⟨vp_in_nI (by omega) (by omega), br (fun c => lf0 h ((hw.2 p hp).mp c)) (fun c => lf1 h (Classical.byContradiction (fun z => c ((hw.2 p hp).mpr z))))⟩
theorem c_comes (hX : XI X) (hR : RC S X) {x1 : Int32} {post : Int32 → CS → Prop} (h1 : ∀ p, p < 150 → x1 = nI p → ∀ S', RC S' X → post (bi (rch X p)) S') (h0 : ¬ inn x1 150 → ∀ S', RC S' X → post (-1) S') : wp_X6_comes S x1 post := by
  unfold wp_X6_comes
  refine s_isPoint (bi_brn (fun c => ?_) (fun c => h0 c S hR))
  obtain ⟨p, hp, rfl⟩ := c
  exact s_knowWays hX hR (fun S1 hR1 hw1 _ _ => s_comeTo (hR1.2.1 hw1) hp (s_answer (bi_b _) (h1 p hp rfl S1 hR1)))
/-- what is known of a leaf -/
noncomputable def hst_ (X : XT) (p v f : Nat) : Int32 := @ite _ (lst X v f p) (Classical.propDecidable _) (@ite _ (hd X v f p) (Classical.propDecidable _) 2 0) 1
theorem and_bit {w : Int64} {k : Nat} (hk : k < 64) : w &&& ((1 : Int64) <<< ((nI k).toInt64 &&& 63)) = 0 ↔ lb w k = false := by
  rw [lb_z]
  constructor
  · intro z
    have := z k hk
    rw [lb_and, lb_one hk, decide_eq_true rfl, Bool.and_true] at this
    exact this
  · intro z i hi
    rw [lb_and, lb_one hk]
    by_cases e : i = k
    · subst e; rw [z]; rfl
    · rw [decide_eq_false e, Bool.and_false]
theorem c_held (hX : XI X) (hR : RC S X) {x1 x2 x3 : Int32} {post : Int32 → CS → Prop} (h1 : ∀ p v f, p < 150 → v < x_nv X → f < x_lv X v → rch X p → x1 = nI p → x2 = nI v → x3 = nI f → ∀ S', RC S' X → post (hst_ X p v f) S') (h0 : (¬ ∃ p v f, p < 150 ∧ v < x_nv X ∧ f < x_lv X v ∧ rch X p ∧ x1 = nI p ∧ x2 = nI v ∧ x3 = nI f) → ∀ S', RC S' X → post (-1) S') : wp_X6_held S x1 x2 x3 post := by
  have hn := hX.1
  unfold wp_X6_held
  refine s_isPoint (bi_br (fun c => ?_) (fun c => h0 (fun ⟨p, v, f, q⟩ => c ⟨p, q.1, q.2.2.2.2.1⟩) S hR))
  obtain ⟨p, hp, rfl⟩ := c
  refine s_hasLeaf hX hR.1.1 (bi_brn (fun c => ?_) (fun c => h0 (fun ⟨p, v, f, q⟩ => c ⟨v, f, q.2.1, q.2.2.2.2.2.1, q.2.2.1, q.2.2.2.2.2.2⟩) S hR))
  obtain ⟨v, f, hv, rfl, hf, rfl⟩ := c
  have hl4 := (hX.2.1 v hv).2.2.1
  refine s_knowLeaves hX hR (fun S1 hR1 hw1 he1 _ => ?_)
  refine s_comeTo (hR1.2.1 hw1) hp (bi_br (fun c => ?_) (fun c => h0 ?_ S1 hR1))
  · have hE := (hR1.2.2.1 he1).2 p hp c v f hv hf
    have hpost := h1 p v f hp hv hf c rfl rfl rfl S1 hR1
    unfold wp_X6_leafBit wp_X1_state
    rw [show nI v * (4 : Int32) = nI (v * 4) from pk_mul v 4, nI_add, n_cl (by omega), show v * 4 + f = 4 * v + f by omega]
    have hvp : vp_in (nI p) 150 := vp_in_nI (by omega) (by omega)
    have hi : 4 * v + f < 64 := by omega
    unfold hst_ at hpost
    refine ⟨hvp, br (fun c2 => ⟨hvp, br (fun c3 => ?_) (fun c3 => ?_)⟩) (fun c2 => ?_)⟩
    · have e1 := (and_bit hi).mp (cmp0.mp c2)
      have e2 := (and_bit hi).mp (cmp0.mp c3)
      have hl : lst X v f p := Classical.byContradiction (fun z => by rw [hE.1.mpr z] at e1; cases e1)
      have hh : ¬ hd X v f p := fun z => by rw [hE.2.mpr z] at e2; cases e2
      rw [if_pos hl, if_neg hh] at hpost; exact hpost
    · have e1 := (and_bit hi).mp (cmp0.mp c2)
      have hl : lst X v f p := Classical.byContradiction (fun z => by rw [hE.1.mpr z] at e1; cases e1)
      have e2 : lb (gC_onSome S1 p) (4 * v + f) = true := by
        cases e : lb (gC_onSome S1 p) (4 * v + f)
        · exact absurd (cmp0.mpr ((and_bit hi).mpr e)) c3
        · rfl
      rw [if_pos hl, if_pos (hE.2.mp e2)] at hpost; exact hpost
    · have e2 : lb (gC_onAll S1 p) (4 * v + f) = true := by
        cases e : lb (gC_onAll S1 p) (4 * v + f)
        · exact absurd (cmp0.mpr ((and_bit hi).mpr e)) c2
        · rfl
      rw [if_neg (hE.1.mp e2)] at hpost; exact hpost
  · rintro ⟨p', v', f', q⟩
    have := n_inj (by omega) (by omega) q.2.2.2.2.1
    subst this
    exact c q.2.2.2.1
theorem s_isLoan (hX : XI X) (hb : RCb S X) {x : Int32} {post : Int32 → CS → Prop} (h : post (bi (∃ l, l < 150 ∧ x = nI l ∧ ml X l)) S) : wp_X6_isLoan S x post := by
  unfold wp_X6_isLoan
  refine s_isPoint (bi_br (fun c => ?_) (fun c => lf0 h (fun ⟨l, q1, q2, _⟩ => c ⟨l, q1, q2⟩)))
  obtain ⟨l, hl, rfl⟩ := c
  refine s_makesLoan hX hb hl (bi_br (fun c => lf1 h ⟨l, hl, rfl, c⟩) (fun c => lf0 h ?_))
  rintro ⟨l2, q1, q2, q3⟩
  have := n_inj (by omega) (by omega) q2
  subst this
  exact c q3
theorem c_holds (hX : XI X) (hR : RC S X) {x1 x2 x3 : Int32} {post : Int32 → CS → Prop} (h1 : ∀ p v l, p < 150 → v < x_nv X → x_so X v ≠ 0 → l < 150 → ml X l → x1 = nI p → x2 = nI v → x3 = nI l → ∀ S', RC S' X → post (bi (hld X l p v)) S') (h0 : (¬ ∃ p v l, p < 150 ∧ v < x_nv X ∧ x_so X v ≠ 0 ∧ l < 150 ∧ ml X l ∧ x1 = nI p ∧ x2 = nI v ∧ x3 = nI l) → ∀ S', RC S' X → post (-1) S') : wp_X6_holds S x1 x2 x3 post := by
  have hn := hX.1
  have h60 := ml_60 hX
  unfold wp_X6_holds
  refine s_isPoint (bi_br (fun c => ?_) (fun c => h0 (fun ⟨p, v, l, q⟩ => c ⟨p, q.1, q.2.2.2.2.2.1⟩) S hR))
  obtain ⟨p, hp, rfl⟩ := c
  refine s_isRef hX hR.1.1 (bi_br (fun c => ?_) (fun c => h0 (fun ⟨p, v, l, q⟩ => c ⟨v, q.2.1, q.2.2.2.2.2.2.1, q.2.2.1⟩) S hR))
  obtain ⟨v, hv, rfl, hsv⟩ := c
  refine s_isLoan hX hR.1 (bi_brn (fun c => ?_) (fun c => h0 (fun ⟨p, v, l, q⟩ => c ⟨l, q.2.2.2.1, q.2.2.2.2.2.2.2, q.2.2.2.2.1⟩) S hR))
  obtain ⟨l, hl, rfl, hml⟩ := c
  refine s_knowLoans hX hR (fun S1 hR1 hw1 hl1 _ => ?_)
  have hpost := h1 p v l hp hv hsv hl hml rfl rfl rfl S1 hR1
  obtain ⟨hN, hH, hU⟩ := (hR1.2.2.2 hl1).2
  have hlt := cnt_lt_of hl hml
  have hHb := hH p v (cnt (ml X) l) hp hv (by omega)
  have hiff : (∃ l2, l2 < 150 ∧ ml X l2 ∧ cnt (ml X) l = cnt (ml X) l2 ∧ hld X l2 p v) ↔ hld X l p v := ⟨fun ⟨l2, q1, q2, q3, q4⟩ => by rw [cnt_inj hml q2 q3]; exact q4, fun q => ⟨l, hl, hml, rfl, q⟩⟩
  rw [hiff] at hHb
  unfold wp_X2_isHeldBy
  rw [n_16, n_cl (by omega), n_cl (by omega), (hN.2.1 l hl hml).1]
  refine ⟨vp_in_nI (by omega) (by omega), vp_in_nI (by omega) (by omega), br (fun c => s_answer (Or.inl rfl) (lf0 hpost (fun z => ?_))) (fun c => s_answer (Or.inr rfl) (lf1 hpost (hHb.mp ?_)))⟩
  · have := (and_bit (by omega)).mp (cmp0.mp c)
    rw [hHb.mpr z] at this; cases this
  · cases e : lb (gC_holdings S1 (16 * p + v)) (cnt (ml X) l)
    · exact absurd (cmp0.mpr ((and_bit (by omega)).mpr e)) c
    · rfl
theorem c_used (hX : XI X) (hR : RC S X) {x1 x2 : Int32} {post : Int32 → CS → Prop} (h1 : ∀ p v, p < 150 → v < x_nv X → x_so X v ≠ 0 → x1 = nI p → x2 = nI v → ∀ S', RC S' X → post (bi (usd X v p)) S') (h0 : (¬ ∃ p v, p < 150 ∧ v < x_nv X ∧ x_so X v ≠ 0 ∧ x1 = nI p ∧ x2 = nI v) → ∀ S', RC S' X → post (-1) S') : wp_X6_used S x1 x2 post := by
  have hn := hX.1
  unfold wp_X6_used
  refine s_isPoint (bi_br (fun c => ?_) (fun c => h0 (fun ⟨p, v, q⟩ => c ⟨p, q.1, q.2.2.2.1⟩) S hR))
  obtain ⟨p, hp, rfl⟩ := c
  refine s_isRef hX hR.1.1 (bi_brn (fun c => ?_) (fun c => h0 (fun ⟨p, v, q⟩ => c ⟨v, q.2.1, q.2.2.2.2, q.2.2.1⟩) S hR))
  obtain ⟨v, hv, rfl, hsv⟩ := c
  refine s_knowLoans hX hR (fun S1 hR1 hw1 hl1 _ => ?_)
  have hpost := h1 p v hp hv hsv rfl rfl S1 hR1
  obtain ⟨hN, hH, hU⟩ := (hR1.2.2.2 hl1).2
  have hUb := hU p hp v (by omega)
  unfold wp_X2_isUsedBehind
  rw [n_cl (by omega)]
  refine ⟨vp_in_nI (by omega) (by omega), s_varBit (Or.inr ⟨v, by omega, rfl⟩) (fun w hw => ?_)⟩
  have hwv : ∀ r, r < 32 → (ib (gC_usedL S1 p &&& w) r = true ↔ (r = v ∧ ib (gC_usedL S1 p) v = true)) := fun r hr => by
    rw [ib_and, Bool.and_eq_true, hw r hr]
    constructor
    · rintro ⟨q1, q2⟩
      have := n_inj (by omega) (by omega) q2
      subst this; exact ⟨rfl, q1⟩
    · rintro ⟨rfl, q⟩; exact ⟨q, rfl⟩
  refine br (fun c => s_answer (Or.inl rfl) (lf0 hpost (fun z => ?_))) (fun c => s_answer (Or.inr rfl) (lf1 hpost ?_))
  · have := (hwv v (by omega)).mpr ⟨rfl, hUb.mpr ⟨hv, hsv, z⟩⟩
    rw [ib_z.mp c v (by omega)] at this; cases this
  · obtain ⟨r, r1, r2⟩ := ib_nz.mp c
    exact (hUb.mp ((hwv r r1).mp r2).2).2.2
/-- the loans in force at p -/
theorem s_inForce (hX : XI X) (hR : RC S X) (hl1 : ¬ gC_lK S = 0) {p : Nat} (hp : p < 150) {post : Int64 → CS → Prop} (h : ∀ w, (∀ i, i < 64 → (lb w i = true ↔ ∃ l, l < 150 ∧ ml X l ∧ i = cnt (ml X) l ∧ frc X l p)) → post w S) : wp_X2_inForce S (nI p) post := by
  have hn := hX.1
  obtain ⟨hN, hH, hU⟩ := (hR.2.2.2 hl1).2
  have hb := hR.1
  have hvp : vp_in (nI p) 150 := vp_in_nI (by omega) (by omega)
  unfold wp_X2_inForce
  rw [n_cl (by omega)]
  refine ⟨hvp, s_renewedAt hp (s_varBit (ren_cases hX hb hp) (fun w1 hw1 x2 e2 => ?_))⟩
  have hx2 : ∀ v, v < x_nv X → (ib x2 v = true ↔ (x_so X v ≠ 0 ∧ usd X v p ∧ ¬ rn X p v)) := fun v hv => by
    rw [e2, ib_and, ib_not _ (by omega), Bool.and_eq_true, hU p hp v (by omega)]
    have hw := hw1 v (by omega)
    constructor
    · rintro ⟨⟨_, q1, q2⟩, q3⟩
      refine ⟨q1, q2, fun z => ?_⟩
      rw [hw.mpr ((rn_iff hX hb hp (by omega) q1).mpr z)] at q3
      cases q3
    · rintro ⟨q1, q2, q3⟩
      refine ⟨⟨hv, q1, q2⟩, ?_⟩
      cases e : ib w1 v
      · rfl
      · exact absurd ((rn_iff hX hb hp (by omega) q1).mp (hw.mp e)) q3
  have key : ∀ (k v : Nat) (x3 : Int64), v + k = x_nv X → (∀ i, i < 64 → (lb x3 i = true ↔ ∃ u, u < v ∧ ib x2 u = true ∧ lb (gC_holdings S (16 * p + u)) i = true)) → wp_X2_inForce_26 post (k + 1) (nI p) x2 x3 (nI v) S := by
    intro k
    induction k with
    | zero =>
      intro v x3 hk hx3
      show ws_X2_inForce_26 _ post _ _ _ _ S
      unfold ws_X2_inForce_26
      refine s_size4 ?_
      rw [hb.1.1]
      refine brt ((xc (by omega) (by omega)).mpr (by omega)) (h x3 (fun i hi => ?_))
      rw [hx3 i hi]
      constructor
      · rintro ⟨u, u1, u2, u3⟩
        obtain ⟨l, l1, l2, l3, l4⟩ := (hH p u i hp (by omega) hi).mp u3
        have q := (hx2 u (by omega)).mp u2
        exact ⟨l, l1, l2, l3, (hld_ref hX l2 l1 l4).2.2, u, by omega, q.1, l4, q.2.2, q.2.1⟩
      · rintro ⟨l, l1, l2, l3, l4, u, u1, u2, u3, u4, u5⟩
        exact ⟨u, by omega, (hx2 u u1).mpr ⟨u2, u5, u4⟩, (hH p u i hp u1 hi).mpr ⟨l, l1, l2, l3, u3⟩⟩
    | succ k ih =>
      intro v x3 hk hx3
      show ws_X2_inForce_26 _ post _ _ _ _ S
      unfold ws_X2_inForce_26
      refine s_size4 ?_
      rw [hb.1.1]
      refine brf (fun q => absurd ((xc (by omega) (by omega)).mp q) (by omega)) (s_varBit (Or.inr ⟨v, by omega, rfl⟩) (fun w hw => ?_))
      have go : ∀ x3' : Int64, (∀ i, i < 64 → (lb x3' i = true ↔ ∃ u, u < v + 1 ∧ ib x2 u = true ∧ lb (gC_holdings S (16 * p + u)) i = true)) → wp_X2_inForce_63 (wp_X2_inForce_26 post (k + 1)) post (nI p) x2 x3' (nI v) S := by
        intro x3' hx
        unfold wp_X2_inForce_63
        intro x5 e5
        subst e5
        rw [show nI v + (1 : Int32) = nI (v + 1) from nI_1 v]
        exact ih (v + 1) x3' (by omega) hx
      have hxw : (x2 &&& w) = 0 ↔ ib x2 v = false := by
        rw [ib_z]
        constructor
        · intro z
          have := z v (by omega)
          rw [ib_and, (hw v (by omega)).mpr rfl, Bool.and_true] at this
          exact this
        · intro z r hr
          rw [ib_and]
          cases e : ib w r
          · rw [Bool.and_false]
          · have := n_inj (by omega) (by omega) ((hw r hr).mp e)
            subst this; rw [z]; rfl
      rw [n_16, n_cl (by omega)]
      refine br (fun c => go x3 (fun i hi => ?_)) (fun c => ⟨vp_in_nI (by omega) (by omega), fun x3' e3 => go x3' (fun i hi => ?_)⟩)
      · rw [hx3 i hi]
        constructor
        · rintro ⟨u, u1, u2⟩; exact ⟨u, by omega, u2⟩
        · rintro ⟨u, u1, u2⟩
          have : u ≠ v := fun e => by subst e; rw [hxw.mp c] at u2; cases u2.1
          exact ⟨u, by omega, u2⟩
      · rw [e3, lb_or, Bool.or_eq_true, hx3 i hi]
        have hv1 : ib x2 v = true := by
          cases e : ib x2 v
          · exact absurd (hxw.mpr e) c
          · rfl
        constructor
        · rintro (⟨u, u1, u2⟩ | z)
          · exact ⟨u, by omega, u2⟩
          · exact ⟨v, by omega, hv1, z⟩
        · rintro ⟨u, u1, u2⟩
          by_cases e : u = v
          · subst e; exact Or.inr u2.2
          · exact Or.inl ⟨u, by omega, u2⟩
  exact ⟨_, key (x_nv X) 0 0 (by omega) (fun i hi => by rw [lb_0]; exact ⟨fun z => (by cases z), fun ⟨u, u1, _⟩ => by omega⟩)⟩
theorem c_force (hX : XI X) (hR : RC S X) {x1 x2 : Int32} {post : Int32 → CS → Prop} (h1 : ∀ l p, l < 150 → ml X l → p < 150 → x1 = nI l → x2 = nI p → ∀ S', RC S' X → post (bi (frc X l p)) S') (h0 : (¬ ∃ l p, l < 150 ∧ ml X l ∧ p < 150 ∧ x1 = nI l ∧ x2 = nI p) → ∀ S', RC S' X → post (-1) S') : wp_X6_force S x1 x2 post := by
  have hn := hX.1
  have h60 := ml_60 hX
  unfold wp_X6_force
  refine s_isPoint (bi_br (fun c => ?_) (fun c => h0 (fun ⟨l, p, q⟩ => c ⟨p, q.2.2.1, q.2.2.2.2⟩) S hR))
  obtain ⟨p, hp, rfl⟩ := c
  refine s_isLoan hX hR.1 (bi_brn (fun c => ?_) (fun c => h0 (fun ⟨l, p, q⟩ => c ⟨l, q.1, q.2.2.2.1, q.2.1⟩) S hR))
  obtain ⟨l, hl, rfl, hml⟩ := c
  refine s_knowLoans hX hR (fun S1 hR1 hw1 hl1 _ => ?_)
  have hpost := h1 l p hl hml hp rfl rfl S1 hR1
  obtain ⟨hN, hH, hU⟩ := (hR1.2.2.2 hl1).2
  have hlt := cnt_lt_of hl hml
  unfold wp_X2_isInForce
  refine s_inForce hX hR1 hl1 hp (fun w hw => ?_)
  have hwb := hw (cnt (ml X) l) (by omega)
  have hiff : (∃ l2, l2 < 150 ∧ ml X l2 ∧ cnt (ml X) l = cnt (ml X) l2 ∧ frc X l2 p) ↔ frc X l p := ⟨fun ⟨l2, q1, q2, q3, q4⟩ => by rw [cnt_inj hml q2 q3]; exact q4, fun q => ⟨l, hl, hml, rfl, q⟩⟩
  rw [hiff] at hwb
  rw [n_cl (by omega), (hN.2.1 l hl hml).1]
  refine ⟨vp_in_nI (by omega) (by omega), br (fun c => s_answer (Or.inl rfl) (lf0 hpost (fun z => ?_))) (fun c => s_answer (Or.inr rfl) (lf1 hpost (hwb.mp ?_)))⟩
  · have := (and_bit (by omega)).mp (cmp0.mp c)
    rw [hwb.mpr z] at this; cases this
  · cases e : lb w (cnt (ml X) l)
    · exact absurd (cmp0.mpr ((and_bit (by omega)).mpr e)) c
    · rfl
end CRD

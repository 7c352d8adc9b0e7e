section MRD
variable {M : MS} {X : XT}
theorem m_comes (hX : XI X) (hM : RM M X) {x1 : Int32} {post : Int32 → MS → Prop} (h1 : ∀ p, p < 150 → x1 = nI p → ∀ M', RM M' X → post (bi (rch X p)) M') (h0 : ¬ inn x1 150 → ∀ M', RM M' X → post (-1) M') : wp_X7_comes M x1 post := by
  unfold wp_X7_comes
  refine m_isPoint (bi_brn (fun c => ?_) (fun c => h0 c M hM))
  obtain ⟨p, hp, rfl⟩ := c
  refine m_workOut hX hM (fun M' hM' ho => ?_)
  have hh := h1 p hp rfl M' hM'
  obtain ⟨v1, v2, v3, v4, v5⟩ := hM'.2 ho
  rw [n_cl (by omega), v1 p hp]
  exact ⟨vp_in_nI (by omega) (by omega), bi_br (fun c => lf1 hh c) (fun c => lf0 hh c)⟩
theorem n_lf {p v f : Nat} : (64 : Int32) * nI p + (4 : Int32) * nI v + nI f = nI (64 * p + 4 * v + f) := by
  rw [show (4 : Int32) * nI v = nI (4 * v) from pk_mul 4 _, n_64, nI_add]
theorem m_held (hX : XI X) (hM : RM M X) {x1 x2 x3 : Int32} {post : Int32 → MS → Prop} (h1 : ∀ p v f, p < 150 → v < x_nv X → f < x_lv X v → rch X p → x1 = nI p → x2 = nI v → x3 = nI f → ∀ M', RM M' X → post (hst_ X p v f) M') (h0 : (¬ ∃ p v f, p < 150 ∧ v < x_nv X ∧ f < x_lv X v ∧ rch X p ∧ x1 = nI p ∧ x2 = nI v ∧ x3 = nI f) → ∀ M', RM M' X → post (-1) M') : wp_X7_held M x1 x2 x3 post := by
  have hn := hX.1
  unfold wp_X7_held
  refine m_isPoint (bi_br (fun c => ?_) (fun c => h0 (fun ⟨p, v, f, q1, q2, q3, q4, q5, q6, q7⟩ => c ⟨p, q1, q5⟩) M hM))
  obtain ⟨p, hp, rfl⟩ := c
  refine m_isVar hX hM.1.1 (bi_br (fun c => ?_) (fun c => h0 (fun ⟨p, v, f, q1, q2, q3, q4, q5, q6, q7⟩ => c ⟨v, q2, q6⟩) M hM))
  obtain ⟨v, hv, rfl⟩ := c
  have h4 := hX.2.1 v hv
  refine ⟨vp_in_nI (by omega) (by omega), ?_⟩
  rw [n_cl (by omega), (hM.1.1.2 v hv).2.1]
  refine m_inx (by omega) (bi_brn (fun c => ?_) (fun c => h0 (fun ⟨p2, v2, f, q1, q2, q3, q4, q5, q6, q7⟩ => c ⟨f, ?_, q7⟩) M hM))
  · obtain ⟨f, hf, rfl⟩ := c
    refine m_workOut hX hM (fun M' hM' ho => ?_)
    obtain ⟨v1, v2, v3, v4, v5⟩ := hM'.2 ho
    rw [n_cl (by omega), v1 p hp]
    refine ⟨vp_in_nI (by omega) (by omega), bi_brn (fun cr x4 e4 => ?_) (fun cr => h0 (fun ⟨p2, w2, f2, q1, q2, q3, q4, q5, q6, q7⟩ => cr ?_) M' hM')⟩
    · subst e4
      have hh := h1 p v f hp hv hf cr rfl rfl rfl M' hM'
      rw [n_lf, n_cl (by omega), (v2 p v f hp hv hf).1, (v2 p v f hp hv hf).2]
      have hvi : vp_in (nI (64 * p + 4 * v + f)) 9600 := vp_in_nI (by omega) (by omega)
      unfold hst_ at hh
      refine ⟨hvi, bi_brn (fun c1 => ⟨hvi, bi_br (fun c2 => ?_) (fun c2 => ?_)⟩) (fun c1 => ?_)⟩
      · rw [if_pos c1, if_pos c2] at hh; exact hh
      · rw [if_pos c1, if_neg c2] at hh; exact hh
      · rw [if_neg c1] at hh; exact hh
    · have := n_inj (by omega) (by omega) q5
      rw [this]; exact q4
  · have := n_inj (by omega) (by omega) q6
    rw [this]; exact q3
theorem m_holds (hX : XI X) (hM : RM M X) {x1 x2 x3 : Int32} {post : Int32 → MS → Prop} (h1 : ∀ p v l, p < 150 → v < x_nv X → x_so X v ≠ 0 → l < 150 → ml X l → x1 = nI p → x2 = nI v → x3 = nI l → ∀ M', RM M' X → post (bi (hld X l p v)) M') (h0 : (¬ ∃ p v l, p < 150 ∧ v < x_nv X ∧ x_so X v ≠ 0 ∧ l < 150 ∧ ml X l ∧ x1 = nI p ∧ x2 = nI v ∧ x3 = nI l) → ∀ M', RM M' X → post (-1) M') : wp_X7_holds M x1 x2 x3 post := by
  have hn := hX.1
  unfold wp_X7_holds
  refine m_isPoint (bi_br (fun c => ?_) (fun c => h0 (fun ⟨p, v, l, q1, q2, q3, q4, q5, q6, q7, q8⟩ => c ⟨p, q1, q6⟩) M hM))
  obtain ⟨p, hp, rfl⟩ := c
  refine m_isRef hX hM.1.1 (bi_br (fun c => ?_) (fun c => h0 (fun ⟨p, v, l, q1, q2, q3, q4, q5, q6, q7, q8⟩ => c ⟨v, q2, q7, q3⟩) M hM))
  obtain ⟨v, hv, rfl, hvs⟩ := c
  refine m_isPoint (bi_br (fun c => ?_) (fun c => h0 (fun ⟨p, v, l, q1, q2, q3, q4, q5, q6, q7, q8⟩ => c ⟨l, q4, q8⟩) M hM))
  obtain ⟨l, hl, rfl⟩ := c
  refine m_makesLoan hX hM.1 hl (bi_brn (fun cm => ?_) (fun cm => h0 (fun ⟨p, v, l2, q1, q2, q3, q4, q5, q6, q7, q8⟩ => cm ?_) M hM))
  · refine m_workOut hX hM (fun M' hM' ho => ?_)
    have hh := h1 p v l hp hv hvs hl cm rfl rfl rfl M' hM'
    obtain ⟨v1, v2, v3, v4, v5⟩ := hM'.2 ho
    obtain ⟨r1, r2⟩ := (v4 l hl).2 cm
    have h60 := Nat.lt_of_lt_of_le (cnt_lt_of (P := ml X) (a := l) (b := 150) hl cm) (ml_60 hX)
    rw [n_cl (by omega), v1 p hp, n_cl (by omega), r1]
    refine ⟨vp_in_nI (by omega) (by omega), bi_br (fun cr => ⟨vp_in_nI (by omega) (by omega), ?_⟩) (fun cr => lf0 hh (fun z => cr (hld_ref hX cm hl z).2.2))⟩
    unfold wp_X7_cell
    rw [n_cell]
    dsimp only
    rw [n_cl (j := 2400 * cnt (ml X) l + (16 * p + v)) (by omega), ← Nat.add_assoc, r2 p v hp (by omega)]
    exact ⟨vp_in_nI (by omega) (by omega), bi_br (fun c => lf1 hh c) (fun c => lf0 hh c)⟩
  · have := n_inj (by omega) (by omega) q8
    rw [this]; exact q5
theorem m_used (hX : XI X) (hM : RM M X) {x1 x2 : Int32} {post : Int32 → MS → Prop} (h1 : ∀ p v, p < 150 → v < x_nv X → x_so X v ≠ 0 → x1 = nI p → x2 = nI v → ∀ M', RM M' X → post (bi (usd X v p)) M') (h0 : (¬ ∃ p v, p < 150 ∧ v < x_nv X ∧ x_so X v ≠ 0 ∧ x1 = nI p ∧ x2 = nI v) → ∀ M', RM M' X → post (-1) M') : wp_X7_used M x1 x2 post := by
  have hn := hX.1
  unfold wp_X7_used
  refine m_isPoint (bi_br (fun c => ?_) (fun c => h0 (fun ⟨p, v, q1, q2, q3, q4, q5⟩ => c ⟨p, q1, q4⟩) M hM))
  obtain ⟨p, hp, rfl⟩ := c
  refine m_isRef hX hM.1.1 (bi_brn (fun c => ?_) (fun c => h0 (fun ⟨p, v, q1, q2, q3, q4, q5⟩ => c ⟨v, q2, q5, q3⟩) M hM))
  obtain ⟨v, hv, rfl, hvs⟩ := c
  refine m_workOut hX hM (fun M' hM' ho => ?_)
  have hh := h1 p v hp hv hvs rfl rfl M' hM'
  obtain ⟨v1, v2, v3, v4, v5⟩ := hM'.2 ho
  rw [n_16m, n_cl (j := p) (by omega), n_cl (by omega), v1 p hp, v3 p v hp hv hvs]
  exact ⟨vp_in_nI (by omega) (by omega), bi_br (fun cr => ⟨vp_in_nI (by omega) (by omega), bi_br (fun c => lf1 hh c) (fun c => lf0 hh c)⟩) (fun cr => lf0 hh (fun z => cr (z (rch X) (fun p q hr _ _ => hr))))⟩
theorem m_force (hX : XI X) (hM : RM M X) {x1 x2 : Int32} {post : Int32 → MS → Prop} (h1 : ∀ l p, l < 150 → ml X l → p < 150 → x1 = nI l → x2 = nI p → ∀ M', RM M' X → post (bi (frc X l p)) M') (h0 : (¬ ∃ l p, l < 150 ∧ ml X l ∧ p < 150 ∧ x1 = nI l ∧ x2 = nI p) → ∀ M', RM M' X → post (-1) M') : wp_X7_force M x1 x2 post := by
  unfold wp_X7_force
  refine m_isPoint (bi_br (fun c => ?_) (fun c => h0 (fun ⟨l, p, q1, q2, q3, q4, q5⟩ => c ⟨p, q3, q5⟩) M hM))
  obtain ⟨p, hp, rfl⟩ := c
  refine m_isPoint (bi_br (fun c => ?_) (fun c => h0 (fun ⟨l, p, q1, q2, q3, q4, q5⟩ => c ⟨l, q1, q4⟩) M hM))
  obtain ⟨l, hl, rfl⟩ := c
  refine m_makesLoan hX hM.1 hl (bi_brn (fun cm => ?_) (fun cm => h0 (fun ⟨l2, p, q1, q2, q3, q4, q5⟩ => cm ?_) M hM))
  · refine m_workOut hX hM (fun M' hM' ho => ?_)
    have hh := h1 l p hl cm hp rfl rfl M' hM'
    obtain ⟨v1, v2, v3, v4, v5⟩ := hM'.2 ho
    rw [n_150, n_cl (j := p) (by omega), n_cl (by omega), v1 p hp]
    refine ⟨vp_in_nI (by omega) (by omega), bi_br (fun cr => ⟨vp_in_nI (by omega) (by omega), ?_⟩) (fun cr => lf0 hh (fun z => cr z.1))⟩
    rw [v5.1 l p hl hp cm cr]
    exact bi_br (fun c => lf1 hh c) (fun c => lf0 hh c)
  · have := n_inj (by omega) (by omega) q4
    rw [this]; exact q2
theorem m_judge (hX : XI X) (hM : RM M X) {post : Int32 → MS → Prop} (h : ∀ M', RM M' X → post (kd X) M') : wp_X7_judge M post := by
  unfold wp_X7_judge
  refine m_workOut hX hM (fun M' hM' ho => ?_)
  rw [(hM'.2 ho).2.2.2.2.2.1]
  exact h M' hM'
theorem m_fault (hX : XI X) (hM : RM M X) {x1 : Int32} {post : Int32 → MS → Prop} (h : ∀ M', RM M' X → post (fan X x1) M') : wp_X7_fault M x1 post := by
  unfold wp_X7_fault
  refine m_workOut hX hM (fun M' hM' ho => ?_)
  have hh := h M' hM'
  obtain ⟨v1, v2, v3, v4, v5, v6, v7, v8, v9⟩ := hM'.2 ho
  rw [v6]
  unfold fan at hh
  refine brn (fun c => ?_) (fun c => ?_)
  · rw [if_neg c] at hh
    obtain ⟨w1, w2⟩ := v7.resolve_left c
    rw [w1, w2]
    refine brn (fun c1 => brn (fun c2 => ?_) (fun c2 => ?_)) (fun c1 => ?_)
    · rw [if_neg c1, if_neg c2] at hh; exact hh
    · rw [if_neg c1, if_pos c2] at hh; exact hh
    · rw [if_pos c1] at hh; exact hh
  · rw [if_pos c] at hh; exact hh
end MRD

theorem lf1 {σ : Type} {post : Int32 → σ → Prop} {P : Prop} {S : σ} (h : post (bi P) S) (hp : P) : post 1 S := by rw [bi_t hp] at h; exact h
theorem lf0 {σ : Type} {post : Int32 → σ → Prop} {P : Prop} {S : σ} (h : post (bi P) S) (hp : ¬ P) : post 0 S := by rw [bi_f hp] at h; exact h
theorem kN (k : Nat) : Int32.ofNat k = nI k := rfl
theorem xc {a b : Nat} (ha : a < 2 ^ 31) (hb : b < 2 ^ 31) : nI a ≤ nI b ↔ a ≤ b := nI_leI ha hb
theorem xl {a b : Nat} (ha : a < 2 ^ 31) (hb : b < 2 ^ 31) : nI a < nI b ↔ a < b := nI_ltI ha hb
theorem xe {a b : Nat} (ha : a < 2 ^ 31) (hb : b < 2 ^ 31) : nI a = nI b ↔ a = b := nI_eq ha hb
theorem xn {a : Nat} (ha : a < 2 ^ 31) : ¬ nI a < 0 := nI_pos ha
/-- is x one of the first n numbers -/
def inn (x : Int32) (n : Nat) : Prop := ∃ v, v < n ∧ x = nI v
theorem inn_iff {x : Int32} {n : Nat} (hn : n < 2 ^ 31) : inn x n ↔ ¬ x < 0 ∧ ¬ nI n ≤ x := by
  constructor
  · rintro ⟨v, hv, rfl⟩
    exact ⟨xn (by omega), fun h => absurd ((xc hn (by omega)).mp h) (by omega)⟩
  · rintro ⟨h1, h2⟩
    rcases pk_ix x hn with h | h | ⟨j, hj, rfl⟩
    · exact absurd h h1
    · exact absurd h h2
    · exact ⟨j, hj, rfl⟩
section CSM
variable {S : CS} {X : XT} {x y z : Int32}
theorem s_has (hX : XI X) (hv : RCv S X) {post : Int32 → CS → Prop} (h : post (bi (inn x (x_nv X))) S) : wp_X4_has S x post := by
  have hn := hX.1
  unfold wp_X4_has
  rw [hv.1]
  refine br (fun c => lf0 h ?_) (fun c => br (fun c2 => lf0 h ?_) (fun c2 => lf1 h ?_))
  · rw [inn_iff (by omega)]; exact fun q => q.1 c
  · rw [inn_iff (by omega)]; exact fun q => q.2 c2
  · rw [inn_iff (by omega)]; exact ⟨c, c2⟩
theorem s_isPoint {post : Int32 → CS → Prop} (h : post (bi (inn x 150)) S) : wp_X6_isPoint S x post := by
  unfold wp_X6_isPoint
  refine br (fun c => lf0 h ?_) (fun c => br (fun c2 => lf0 h ?_) (fun c2 => lf1 h ?_))
  · rw [inn_iff (by omega)]; exact fun q => q.1 c
  · rw [inn_iff (by omega)]; exact fun q => q.2 c2
  · rw [inn_iff (by omega)]; exact ⟨c, c2⟩
theorem s_hasParts (hX : XI X) (hv : RCv S X) {post : Int32 → CS → Prop} (h : post (bi (∃ v, v < x_nv X ∧ x = nI v ∧ 1 < x_lv X v)) S) : wp_X4_hasParts S x post := by
  unfold wp_X4_hasParts
  refine s_has hX hv (bi_br (fun c => ?_) (fun c => lf0 h ?_))
  · obtain ⟨v, hv1, rfl⟩ := c
    have hn := hX.1
    have h4 := hX.2.1 v hv1
    refine ⟨vp_in_nI (by omega) (by omega), ?_⟩
    rw [n_cl (by omega), (hv.2.1 v hv1).2]
    refine br (fun c => lf0 h ?_) (fun c => lf1 h ⟨v, hv1, rfl, ?_⟩)
    · rintro ⟨v2, h1, h2, h3⟩
      have := n_inj (by omega) (by omega) h2
      subst this
      exact absurd ((xc (a := x_lv X v) (b := 1) (by omega) (by omega)).mp c) (by omega)
    · rw [show (1 : Int32) = nI 1 from rfl, xc (by omega) (by omega)] at c
      omega
  · rintro ⟨v, h1, h2, _⟩
    exact c ⟨v, h1, h2⟩
theorem s_isRef (hX : XI X) (hv : RCv S X) {post : Int32 → CS → Prop} (h : post (bi (∃ v, v < x_nv X ∧ x = nI v ∧ x_so X v ≠ 0)) S) : wp_X4_isReference S x post := by
  unfold wp_X4_isReference
  refine s_has hX hv (bi_br (fun c => ?_) (fun c => lf0 h ?_))
  · obtain ⟨v, hv1, rfl⟩ := c
    have hn := hX.1
    have h4 := hX.2.1 v hv1
    refine ⟨vp_in_nI (by omega) (by omega), ?_⟩
    rw [n_cl (by omega), (hv.2.1 v hv1).1]
    refine br (fun c => lf0 h ?_) (fun c => lf1 h ⟨v, hv1, rfl, ?_⟩)
    · rintro ⟨v2, h1, h2, h3⟩
      have := n_inj (by omega) (by omega) h2
      subst this
      exact h3 ((xe (a := x_so X v) (b := 0) (by omega) (by omega)).mp c)
    · intro e; rw [e] at c; exact c rfl
  · rintro ⟨v, h1, h2, _⟩
    exact c ⟨v, h1, h2⟩
theorem s_isSh (hX : XI X) (hv : RCv S X) {post : Int32 → CS → Prop} (h : post (bi (∃ v, v < x_nv X ∧ x = nI v ∧ x_so X v = 1)) S) : wp_X4_isShared S x post := by
  unfold wp_X4_isShared
  refine s_has hX hv (bi_br (fun c => ?_) (fun c => lf0 h ?_))
  · obtain ⟨v, hv1, rfl⟩ := c
    have hn := hX.1
    have h4 := hX.2.1 v hv1
    refine ⟨vp_in_nI (by omega) (by omega), ?_⟩
    rw [n_cl (by omega), (hv.2.1 v hv1).1]
    refine brn (fun c => lf0 h ?_) (fun c => lf1 h ⟨v, hv1, rfl, ?_⟩)
    · rintro ⟨v2, h1, h2, h3⟩
      have := n_inj (by omega) (by omega) h2
      subst this
      rw [h3] at c; exact c rfl
    · exact (xe (a := x_so X v) (b := 1) (by omega) (by omega)).mp c
  · rintro ⟨v, h1, h2, _⟩
    exact c ⟨v, h1, h2⟩
theorem s_isSo (hX : XI X) (hv : RCv S X) {post : Int32 → CS → Prop} (h : post (bi (∃ v, v < x_nv X ∧ x = nI v ∧ x_so X v = 2)) S) : wp_X4_isSole S x post := by
  unfold wp_X4_isSole
  refine s_has hX hv (bi_br (fun c => ?_) (fun c => lf0 h ?_))
  · obtain ⟨v, hv1, rfl⟩ := c
    have hn := hX.1
    have h4 := hX.2.1 v hv1
    refine ⟨vp_in_nI (by omega) (by omega), ?_⟩
    rw [n_cl (by omega), (hv.2.1 v hv1).1]
    refine brn (fun c => lf0 h ?_) (fun c => lf1 h ⟨v, hv1, rfl, ?_⟩)
    · rintro ⟨v2, h1, h2, h3⟩
      have := n_inj (by omega) (by omega) h2
      subst this
      rw [h3] at c; exact c rfl
    · exact (xe (a := x_so X v) (b := 2) (by omega) (by omega)).mp c
  · rintro ⟨v, h1, h2, _⟩
    exact c ⟨v, h1, h2⟩
theorem s_hasLeaf (hX : XI X) (hv : RCv S X) {post : Int32 → CS → Prop} (h : post (bi (∃ v f, v < x_nv X ∧ x = nI v ∧ f < x_lv X v ∧ y = nI f)) S) : wp_X4_hasLeaf S x y post := by
  unfold wp_X4_hasLeaf
  refine s_has hX hv (bi_br (fun c => ?_) (fun c => lf0 h ?_))
  · obtain ⟨v, hv1, rfl⟩ := c
    have hn := hX.1
    have h4 := hX.2.1 v hv1
    refine br (fun c => lf0 h ?_) (fun c => ⟨vp_in_nI (by omega) (by omega), ?_⟩)
    · rintro ⟨v2, f, h1, h2, h3, rfl⟩
      have := n_inj (by omega) (by omega) h2
      subst this
      exact absurd c (xn (by omega))
    rw [n_cl (by omega), (hv.2.1 v hv1).2]
    refine br (fun c2 => lf0 h ?_) (fun c2 => lf1 h ?_)
    · rintro ⟨v2, f, h1, h2, h3, rfl⟩
      have := n_inj (by omega) (by omega) h2
      subst this
      rw [xc (by omega) (by omega)] at c2
      omega
    · obtain ⟨f, hf, rfl⟩ := (inn_iff (x := y) (n := x_lv X v) (by omega)).mpr ⟨c, c2⟩
      exact ⟨v, f, hv1, rfl, hf, rfl⟩
  · rintro ⟨v, f, h1, h2, _⟩
    exact c ⟨v, h1, h2⟩
theorem n_d8 {w : Nat} (h : w < 2 ^ 31) : nI w &&& (7 : Int32) = nI (w % 8) := pk_andN (by omega) 3 (by decide)
theorem n_s3 {w : Nat} (h : w < 2 ^ 31) : nI w >>> ((3 : Int32) &&& 31) = nI (w / 8) := pk_shrN h _ 3 (by decide)
theorem s_isPath_loop {post : Int32 → CS → Prop} {w : Nat} (hw : w < 4096) (h : post (bi (okp 4 w)) S) : ∃ n_, wp_X3_isPath_17 post n_ (nI w) 0 S := by
  have key : ∀ (k i w : Nat), i + k = 4 → w < 4096 → post (bi (okp k w)) S → wp_X3_isPath_17 post (k + 1) (nI w) (nI i) S := by
    intro k
    induction k with
    | zero =>
      intro i w hi hw h
      show ws_X3_isPath_17 _ post _ _ S
      unfold ws_X3_isPath_17
      refine brt ((xc (a := 4) (b := i) (by omega) (by omega)).mpr (by omega)) (lf1 h trivial)
    | succ k ih =>
      intro i w hi hw h
      show ws_X3_isPath_17 _ post _ _ S
      unfold ws_X3_isPath_17
      refine brf (fun q => absurd ((xc (a := 4) (b := i) (by omega) (by omega)).mp q) (by omega)) ?_
      refine br (fun c => lf1 h (Or.inl ((xe (a := w) (b := 0) (by omega) (by omega)).mp c))) (fun c => ?_)
      have hw0 : w ≠ 0 := fun e => c (by rw [e]; rfl)
      unfold wp_X3_firstDigit wp_X3_behindFirst
      rw [n_d8 (by omega), n_s3 (by omega)]
      refine br (fun c2 => lf0 h ?_) (fun c2 => ?_)
      · have := (xe (a := w % 8) (b := 0) (by omega) (by omega)).mp c2
        rintro (q | q)
        · exact hw0 q
        · omega
      · have h1 : w % 8 ≠ 0 := fun e => c2 (by rw [e]; rfl)
        refine br (fun c3 => ?_) (fun c3 => lf0 h ?_)
        · have h6 := (xc (a := w % 8) (b := 6) (by omega) (by omega)).mp c3
          intro x2 e2
          subst e2
          rw [show nI i + (1 : Int32) = nI (i + 1) from nI_1 i]
          refine ih (i + 1) (w / 8) (by omega) (by omega) ?_
          rw [bi_e (show okp (k + 1) w ↔ okp k (w / 8) from ⟨fun q => q.elim (fun q => absurd q hw0) (fun q => q.2.2), fun q => Or.inr ⟨by omega, h6, q⟩⟩)] at h
          exact h
        · rintro (q | q)
          · exact hw0 q
          · exact c3 ((xc (a := w % 8) (b := 6) (by omega) (by omega)).mpr q.2.1)
  exact ⟨5, key 4 0 w rfl hw h⟩
theorem s_isPath {post : Int32 → CS → Prop} (h : post (bi (∃ w, w < 4096 ∧ okp 4 w ∧ x = nI w)) S) : wp_X3_isPath S x post := by
  unfold wp_X3_isPath
  refine br (fun c => lf0 h ?_) (fun c => br (fun c2 => ?_) (fun c2 => lf0 h ?_))
  · rintro ⟨w, hw, _, rfl⟩; exact absurd c (xn (by omega))
  · obtain ⟨w, hw, rfl⟩ := (inn_iff (x := x) (n := 4096) (by omega)).mpr ⟨c, fun q => absurd c2 (Int32.not_lt.mpr q)⟩
    refine s_isPath_loop hw ?_
    rw [bi_e (show (∃ w2, w2 < 4096 ∧ okp 4 w2 ∧ nI w = nI w2) ↔ okp 4 w from ⟨fun ⟨w2, h1, h2, h3⟩ => by have := n_inj (by omega) (by omega) h3; rw [this]; exact h2, fun q => ⟨w, hw, q, rfl⟩⟩)] at h
    exact h
  · rintro ⟨w, hw, _, rfl⟩; exact c2 ((xl (a := w) (b := 4096) (by omega) (by omega)).mpr hw)
theorem s_isPlace (hX : XI X) (hv : RCv S X) {post : Int32 → CS → Prop} (h : post (bi (∃ v w, x = nI v ∧ y = nI w ∧ isPl X v w)) S) : wp_X4_isPlace S x y post := by
  unfold wp_X4_isPlace
  have hn := hX.1
  refine s_has hX hv (bi_br (fun c => ?_) (fun c => lf0 h ?_))
  · obtain ⟨v, hv1, rfl⟩ := c
    have h4 := hX.2.1 v hv1
    refine s_isPath (bi_brn (fun c => ?_) (fun c => lf0 h ?_))
    · obtain ⟨w, hw, hok, rfl⟩ := c
      have hP : bi (∃ v2 w2, nI v = nI v2 ∧ nI w = nI w2 ∧ isPl X v2 w2) = bi ((x_so X v ≠ 0 → w = 0 ∨ w % 8 = 5) ∧ (x_so X v = 0 → x_lv X v = 1 ∨ w = 0 ∨ w % 8 ≤ x_lv X v)) := by
        apply bi_e
        constructor
        · rintro ⟨v2, w2, h1, h2, h3⟩
          have e1 := n_inj (by omega) (by have := h3.1; omega) h1
          have e2 := n_inj (by omega) (by have := h3.2.1.1; omega) h2
          subst e1; subst e2
          exact h3.2.2
        · intro q; exact ⟨v, w, rfl, rfl, hv1, ⟨hw, hok⟩, q.1, q.2⟩
      rw [hP] at h
      clear hP
      refine brn (fun c2 => ?_) (fun c2 => ?_)
      · have hw0 : w ≠ 0 := fun e => c2 (by rw [e]; rfl)
        refine s_isRef hX hv (bi_br (fun c3 => ?_) (fun c3 => ?_))
        · obtain ⟨v2, h1, h2, h3⟩ := c3
          have := n_inj (by omega) (by omega) h2
          subst this
          unfold wp_X3_firstDigit
          rw [n_d8 (by omega)]
          refine brn (fun c4 => lf0 h ?_) (fun c4 => lf1 h ?_)
          · intro q
            rcases q.1 h3 with q | q
            · exact hw0 q
            · rw [q] at c4; exact c4 rfl
          · have := (xe (a := w % 8) (b := 5) (by omega) (by omega)).mp c4
            exact ⟨fun _ => Or.inr this, fun q => absurd q h3⟩
        · have h0 : x_so X v = 0 := Classical.byContradiction (fun q => c3 ⟨v, hv1, rfl, q⟩)
          refine s_hasParts hX hv (bi_br (fun c4 => ?_) (fun c4 => lf1 h ?_))
          · obtain ⟨v2, h1, h2, h3⟩ := c4
            have := n_inj (by omega) (by omega) h2
            subst this
            unfold wp_X3_firstDigit
            rw [n_d8 (by omega)]
            refine ⟨vp_in_nI (by omega) (by omega), ?_⟩
            rw [n_cl (by omega), (hv.2.1 v hv1).2]
            refine br (fun c5 => lf0 h ?_) (fun c5 => lf1 h ?_)
            · have := (xl (by omega) (by omega)).mp c5
              intro q
              have := q.2 h0
              omega
            · rw [xl (by omega) (by omega)] at c5
              exact ⟨fun q => absurd h0 q, fun _ => Or.inr (Or.inr (by omega))⟩
          · have : ¬ 1 < x_lv X v := fun q => c4 ⟨v, hv1, rfl, q⟩
            exact ⟨fun q => absurd h0 q, fun _ => Or.inl (by omega)⟩
      · have hw0 := (xe (a := w) (b := 0) (by omega) (by omega)).mp c2
        exact lf1 h ⟨fun _ => Or.inl hw0, fun _ => Or.inr (Or.inl hw0)⟩
    · rintro ⟨v2, w2, h1, h2, h3⟩
      exact c ⟨w2, h3.2.1.1, h3.2.1.2, h2⟩
  · rintro ⟨v2, w2, h1, h2, h3⟩
    exact c ⟨v2, h3.1, h1⟩
end CSM

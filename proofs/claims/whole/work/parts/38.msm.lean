section MSM
variable {M : MS} {X : XT} {x y z : Int32}
theorem n_r8 {w : Nat} (h : w < 2 ^ 31) : nI w - nI w / (8 : Int32) * (8 : Int32) = nI (w % 8) := pk_rem (d := 8) h (by omega) (by omega)
theorem n_q8 {w : Nat} (h : w < 2 ^ 31) : nI w / (8 : Int32) = nI (w / 8) := pk_div (d := 8) h (by omega) (by omega)
theorem n_4q {p i : Nat} : (4 : Int32) * nI p + nI i = nI (4 * p + i) := by
  rw [show (4 : Int32) * nI p = nI (4 * p) from pk_mul 4 p, nI_add]
theorem n_le0 {w : Nat} (h : w < 2 ^ 31) : nI w ≤ 0 ↔ w = 0 := by
  rw [show (0 : Int32) = nI 0 from rfl, xc h (by omega)]; omega
theorem n_e0 {w : Nat} (h : w < 2 ^ 31) : nI w = 0 ↔ w = 0 := xe (b := 0) h (by omega)
theorem m_in0 {n : Nat} (hn : n + 1 < 2 ^ 31) {post : Int32 → MS → Prop} (h : post (bi (inn x (n + 1))) M) : wp_X7_in M x 0 (nI n) post := by
  unfold wp_X7_in
  by_cases hi : inn x (n + 1)
  · have h1 := lf1 h hi
    obtain ⟨j, hj, rfl⟩ := hi
    exact brf (xn (by omega)) (brf (fun q => absurd ((xl (by omega) (by omega)).mp q) (by omega)) h1)
  · have h0 := lf0 h hi
    refine br (fun _ => h0) (fun c => ?_)
    have hle : nI (n + 1) ≤ x := by
      rcases pk_ix x hn with q | q | ⟨j, hj, rfl⟩
      · exact absurd q c
      · exact q
      · exact absurd ⟨j, hj, rfl⟩ hi
    exact brt (Int32.lt_of_lt_of_le ((xl (by omega) (by omega)).mpr (Nat.lt_succ_self n)) hle) h0
theorem m_inx {n : Nat} (hn : n < 2 ^ 31) {post : Int32 → MS → Prop} (h : post (bi (inn x n)) M) : wp_X7_in M x 0 (nI n - 1) post := by
  match n, hn, h with
  | 0, hn, h =>
    have h0 := lf0 h (fun ⟨v, hv, _⟩ => by omega)
    unfold wp_X7_in
    refine br (fun _ => h0) (fun c => brt ?_ h0)
    have : (-1 : Int32) < 0 := by decide
    exact Int32.lt_of_lt_of_le this (Int32.not_lt.mp c)
  | n + 1, hn, h =>
    rw [nI_pred]
    exact m_in0 hn h
theorem m_isPoint {post : Int32 → MS → Prop} (h : post (bi (inn x 150)) M) : wp_X7_isPoint M x post := by
  unfold wp_X7_isPoint
  exact m_in0 (n := 149) (by omega) ⟨bi_b _, h⟩
theorem m_isVar (hX : XI X) (hv : RMv M X) {post : Int32 → MS → Prop} (h : post (bi (inn x (x_nv X))) M) : wp_X7_isVariable M x post := by
  have hn := hX.1
  unfold wp_X7_isVariable
  rw [hv.1]
  exact m_inx (by omega) ⟨bi_b _, h⟩
theorem m_isRef (hX : XI X) (hv : RMv M X) {post : Int32 → MS → Prop} (h : post (bi (∃ v, v < x_nv X ∧ x = nI v ∧ x_so X v ≠ 0)) M) : wp_X7_isReference M x post := by
  have hn := hX.1
  unfold wp_X7_isReference
  refine m_isVar hX hv (bi_br (fun c => ?_) (fun c => lf0 h ?_))
  · obtain ⟨v, hv1, rfl⟩ := c
    have h4 := hX.2.1 v hv1
    refine ⟨vp_in_nI (by omega) (by omega), ?_⟩
    rw [n_cl (by omega), (hv.2 v hv1).1]
    refine br (fun c => lf0 h ?_) (fun c => lf1 h ⟨v, hv1, rfl, ?_⟩)
    · rintro ⟨v2, h1, h2, h3⟩
      have := n_inj (by omega) (by omega) h2
      subst this
      exact h3 ((n_e0 (by omega)).mp c)
    · intro e; rw [e] at c; exact c rfl
  · rintro ⟨v, h1, h2, _⟩
    exact c ⟨v, h1, h2⟩
theorem m_path_loop {post : Int32 → MS → Prop} : ∀ (k w : Nat), k ≤ 4 → w < 8 ^ k → ∀ g : Prop, post (bi (g ∧ okp k w)) M → wp_X7_isPath_17 post (k + 1) (nI w) (bi g) M := by
  intro k
  induction k with
  | zero =>
    intro w _ hw g h
    have e : w = 0 := by rw [Nat.pow_zero] at hw; omega
    subst e
    show ws_X7_isPath_17 _ post _ _ M
    unfold ws_X7_isPath_17
    refine brt (by decide) ⟨bi_b _, ?_⟩
    rw [bi_e (show (g ∧ okp 0 0) ↔ g from ⟨fun q => q.1, fun q => ⟨q, trivial⟩⟩)] at h
    exact h
  | succ k ih =>
    intro w hk hw g h
    rw [Nat.pow_succ] at hw
    have hp : 8 ^ k ≤ 512 := by
      have : 8 ^ k ≤ 8 ^ 3 := Nat.pow_le_pow_right (by omega) (by omega)
      omega
    show ws_X7_isPath_17 _ post _ _ M
    unfold ws_X7_isPath_17
    refine br (fun c => ⟨bi_b _, ?_⟩) (fun c => ?_)
    · have e := (n_le0 (by omega)).mp c
      subst e
      rw [bi_e (show (g ∧ okp (k + 1) 0) ↔ g from ⟨fun q => q.1, fun q => ⟨q, Or.inl rfl⟩⟩)] at h
      exact h
    · have hw0 : w ≠ 0 := fun e => c ((n_le0 (by omega)).mpr e)
      have hP : bi (g ∧ okp (k + 1) w) = bi ((g ∧ 1 ≤ w % 8 ∧ w % 8 ≤ 6) ∧ okp k (w / 8)) := bi_e ⟨fun q => by
        rcases q.2 with z | z
        · exact absurd z hw0
        · exact ⟨⟨q.1, z.1, z.2.1⟩, z.2.2⟩, fun q => ⟨q.1.1, Or.inr ⟨q.1.2.1, q.1.2.2, q.2⟩⟩⟩
      rw [hP] at h
      have h' := ih (w / 8) (by omega) (by omega) _ h
      rw [n_r8 (by omega)]
      have h46 : ∀ r, r = bi (g ∧ 1 ≤ w % 8 ∧ w % 8 ≤ 6) → wp_X7_isPath_46 (wp_X7_isPath_17 post (k + 1)) post (nI w) r M := fun r er => by
        unfold wp_X7_isPath_46
        intro x1 e1
        subst e1; subst er
        rw [n_q8 (by omega)]
        exact h'
      refine bi_br (fun cg => br (fun c1 => h46 _ ?_) (fun c1 => br (fun c2 => h46 _ ?_) (fun c2 => h46 _ ?_))) (fun cg => h46 _ ?_)
      · have := (n_le0 (by omega)).mp c1
        rw [bi_f (by omega)]
      · have := (xc (a := 7) (b := w % 8) (by omega) (by omega)).mp c2
        rw [bi_f (by omega)]
      · have h1 : w % 8 ≠ 0 := fun e => c1 ((n_le0 (by omega)).mpr e)
        have h2 : ¬ 7 ≤ w % 8 := fun e => c2 ((xc (a := 7) (b := w % 8) (by omega) (by omega)).mpr e)
        rw [bi_t ⟨cg, by omega, by omega⟩]
      · rw [bi_f (fun q => cg q.1)]
theorem m_isPath {post : Int32 → MS → Prop} (h : post (bi (∃ w, w < 4096 ∧ okp 4 w ∧ x = nI w)) M) : wp_X7_isPath M x post := by
  unfold wp_X7_isPath
  refine m_in0 (n := 4095) (by omega) (bi_brn (fun c => ?_) (fun c => lf0 h (fun ⟨w, h1, h2, h3⟩ => c ⟨w, h1, h3⟩)))
  obtain ⟨w, hw, rfl⟩ := c
  have := m_path_loop (M := M) (post := post) 4 w (by omega) (by omega) True (by
    rw [bi_e (show (∃ w2, w2 < 4096 ∧ okp 4 w2 ∧ nI w = nI w2) ↔ True ∧ okp 4 w from ⟨fun ⟨w2, h1, h2, h3⟩ => by have := n_inj (by omega) (by omega) h3; rw [this]; exact ⟨trivial, h2⟩, fun q => ⟨w, hw, q.2, rfl⟩⟩)] at h
    exact h)
  rw [bi_t trivial] at this
  exact ⟨_, this⟩
theorem m_isPlace (hX : XI X) (hv : RMv M X) {post : Int32 → MS → Prop} (h : post (bi (∃ v w, x = nI v ∧ y = nI w ∧ isPl X v w)) M) : wp_X7_isPlace M x y post := by
  unfold wp_X7_isPlace
  have hn := hX.1
  refine m_isVar hX hv (bi_br (fun c => ?_) (fun c => lf0 h ?_))
  · obtain ⟨v, hv1, rfl⟩ := c
    have h4 := hX.2.1 v hv1
    refine m_isPath (bi_brn (fun c => ?_) (fun c => lf0 h ?_))
    · obtain ⟨w, hw, hok, rfl⟩ := c
      have hP : bi (∃ v2 w2, nI v = nI v2 ∧ nI w = nI w2 ∧ isPl X v2 w2) = bi ((x_so X v ≠ 0 → w = 0 ∨ w % 8 = 5) ∧ (x_so X v = 0 → x_lv X v = 1 ∨ w = 0 ∨ w % 8 ≤ x_lv X v)) := by
        apply bi_e
        constructor
        · rintro ⟨v2, w2, h1, h2, h3⟩
          have e1 := n_inj (by omega) (by have := h3.1; omega) h1
          have e2 := n_inj (by omega) (by have := h3.2.1.1; omega) h2
          subst e1; subst e2
          exact h3.2.2
        · intro q; exact ⟨v, w, rfl, rfl, hv1, ⟨hw, hok⟩, q.1, q.2⟩
      rw [hP] at h
      clear hP
      have hvi : vp_in (nI v) 16 := vp_in_nI (by omega) (by omega)
      rw [n_cl (by omega), (hv.2 v hv1).1, (hv.2 v hv1).2.1, n_r8 (by omega)]
      refine ⟨hvi, br (fun c2 => ⟨hvi, br (fun c3 => lf1 h ?_) (fun c3 => br (fun c4 => lf1 h ?_) (fun c4 => ⟨hvi, br (fun c5 => lf0 h ?_) (fun c5 => lf1 h ?_)⟩))⟩) (fun c2 => br (fun c3 => lf1 h ?_) (fun c3 => brn (fun c4 => lf0 h ?_) (fun c4 => lf1 h ?_)))⟩
      · have h0 := (n_e0 (by omega)).mp c2
        have := (xe (a := x_lv X v) (b := 1) (by omega) (by omega)).mp c3
        exact ⟨fun q => absurd h0 q, fun _ => Or.inl this⟩
      · have h0 := (n_e0 (by omega)).mp c2
        have := (n_e0 (by omega)).mp c4
        exact ⟨fun q => absurd h0 q, fun _ => Or.inr (Or.inl this)⟩
      · have h0 := (n_e0 (by omega)).mp c2
        have h1 : x_lv X v ≠ 1 := fun e => c3 (by rw [e]; rfl)
        have h2 : w ≠ 0 := fun e => c4 (by rw [e]; rfl)
        have h3 := (xl (by omega) (by omega)).mp c5
        intro q
        have := q.2 h0
        omega
      · have h0 := (n_e0 (by omega)).mp c2
        rw [xl (by omega) (by omega)] at c5
        exact ⟨fun q => absurd h0 q, fun _ => Or.inr (Or.inr (by omega))⟩
      · have h0 : x_so X v ≠ 0 := fun e => c2 (by rw [e]; rfl)
        have := (n_e0 (by omega)).mp c3
        exact ⟨fun _ => Or.inl this, fun q => absurd q h0⟩
      · have h0 : x_so X v ≠ 0 := fun e => c2 (by rw [e]; rfl)
        have h2 : w ≠ 0 := fun e => c3 (by rw [e]; rfl)
        have h5 : w % 8 ≠ 5 := fun e => c4 (by rw [e]; rfl)
        intro q
        have := q.1 h0
        omega
      · have h0 : x_so X v ≠ 0 := fun e => c2 (by rw [e]; rfl)
        have := (xe (a := w % 8) (b := 5) (by omega) (by omega)).mp c4
        exact ⟨fun _ => Or.inr this, fun q => absurd q h0⟩
    · rintro ⟨v2, w2, h1, h2, h3⟩
      exact c ⟨w2, h3.2.1.1, h3.2.1.2, h2⟩
  · rintro ⟨v2, w2, h1, h2, h3⟩
    exact c ⟨v2, h3.1, h1⟩
theorem m_isWithin (hX : XI X) (hv : RMv M X) {v w : Nat} (hv1 : v < x_nv X) (hw : w < 4096) {post : Int32 → MS → Prop} (h : post (bi (wi X v w)) M) : wp_X7_isWithin M (nI v) (nI w) post := by
  have hn := hX.1
  have h4 := hX.2.1 v hv1
  unfold wp_X7_isWithin
  refine ⟨vp_in_nI (by omega) (by omega), ?_⟩
  rw [n_cl (by omega), (hv.2 v hv1).2.1]
  refine br (fun c => ?_) (fun c => ?_)
  · have c1 := (xc (a := x_lv X v) (b := 1) (by omega) (by omega)).mp c
    refine br (fun c => lf0 h ?_) (fun c => lf1 h ?_)
    · have := (n_le0 (by omega)).mp c
      unfold wi; omega
    · have : w ≠ 0 := fun e => c ((n_le0 (by omega)).mpr e)
      unfold wi; omega
  · have c1 : ¬ x_lv X v ≤ 1 := fun q => c ((xc (a := x_lv X v) (b := 1) (by omega) (by omega)).mpr q)
    refine br (fun c => lf0 h ?_) (fun c => lf1 h ?_)
    · have := (xl (a := w) (b := 8) (by omega) (by omega)).mp c
      unfold wi; omega
    · have : ¬ w < 8 := fun e => c ((xl (a := w) (b := 8) (by omega) (by omega)).mpr e)
      unfold wi; omega
theorem m_isThrough (hX : XI X) (hv : RMv M X) {v w : Nat} (hv1 : v < x_nv X) (hw : w < 4096) {post : Int32 → MS → Prop} (h : post (bi (x_so X v ≠ 0 ∧ 0 < w)) M) : wp_X7_isThrough M (nI v) (nI w) post := by
  have hn := hX.1
  have h4 := hX.2.1 v hv1
  unfold wp_X7_isThrough
  refine ⟨vp_in_nI (by omega) (by omega), ?_⟩
  rw [n_cl (by omega), (hv.2 v hv1).1]
  refine br (fun c => lf0 h ?_) (fun c => br (fun c2 => lf0 h ?_) (fun c2 => lf1 h ?_))
  · have := (n_e0 (by omega)).mp c
    omega
  · have := (n_le0 (by omega)).mp c2
    omega
  · have h1 : x_so X v ≠ 0 := fun e => c (by rw [e]; rfl)
    have h2 : w ≠ 0 := fun e => c2 ((n_le0 (by omega)).mpr e)
    omega
end MSM

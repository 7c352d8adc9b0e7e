theorem ek0 {a : Nat} (h : a < 2 ^ 31) : (nI a = (0 : Int32)) = (a = 0) := propext (xe (b := 0) h (by omega))
theorem ek1 {a : Nat} (h : a < 2 ^ 31) : (nI a = (1 : Int32)) = (a = 1) := propext (xe (b := 1) h (by omega))
theorem ek2 {a : Nat} (h : a < 2 ^ 31) : (nI a = (2 : Int32)) = (a = 2) := propext (xe (b := 2) h (by omega))
theorem ek3 {a : Nat} (h : a < 2 ^ 31) : (nI a = (3 : Int32)) = (a = 3) := propext (xe (b := 3) h (by omega))
theorem ek5 {a : Nat} (h : a < 2 ^ 31) : (nI a = (5 : Int32)) = (a = 5) := propext (xe (b := 5) h (by omega))
theorem ek6 {a : Nat} (h : a < 2 ^ 31) : (nI a = (6 : Int32)) = (a = 6) := propext (xe (b := 6) h (by omega))
theorem ek7 {a : Nat} (h : a < 2 ^ 31) : (nI a = (7 : Int32)) = (a = 7) := propext (xe (b := 7) h (by omega))
theorem ek8 {a : Nat} (h : a < 2 ^ 31) : (nI a = (8 : Int32)) = (a = 8) := propext (xe (b := 8) h (by omega))
theorem ekn {a b : Nat} (h : a < 2 ^ 31) (h2 : b < 2 ^ 31) : (nI a = nI b) = (a = b) := propext (xe h h2)
theorem ok_p7 {X : XT} {p : Nat} (h : actOk X p) (h7 : x_ac X p = 7) : x_so X (x_of X p) ≠ 0 → x_pa X p ≠ 0 := by
  unfold actOk at h; omega
section MRW
variable {M : MS} {X : XT} {p : Nat}
theorem m_isLeafOf (hX : XI X) (hb : RMb M X) (hp : p < 150) (ha : x_ac X p ≠ 0) {f : Nat} (hf : f < 8) {post : Int32 → MS → Prop} (h : post (bi (lf X p f)) M) : wp_X7_isLeafOf M (nI p) (nI f) post := by
  have hn := hX.1
  have hk := hX.2.2.1 p hp
  have ho := ok_of hk ha
  have hw := ok_pa hk ha
  have h4 := hX.2.1 _ ho
  have hvi : vp_in (nI p) 150 := vp_in_nI (by omega) (by omega)
  obtain ⟨a1, a2, a3⟩ := hb.2.1 p hp
  obtain ⟨a2, a4⟩ := a2 ha
  unfold wp_X7_isLeafOf
  rw [n_cl (j := p) (by omega)] 
  simp only [a2, a4]
  rw [n_cl (by omega), (hb.1.2 _ ho).2.1, n_r8 (by omega), show nI f + (1 : Int32) = nI (f + 1) from nI_1 f, ek1 (by omega), ek0 (by omega), ekn (by omega) (by omega)]
  unfold lf at h
  exact ⟨hvi, vp_in_nI (by omega) (by omega), br (fun c => lf1 h (Or.inl c)) (fun c => ⟨hvi, br (fun c2 => lf1 h (Or.inr (Or.inl c2))) (fun c2 => ⟨hvi, brn (fun c3 => lf0 h (by omega)) (fun c3 => lf1 h (by omega))⟩)⟩)⟩
theorem m_gives (hX : XI X) (hb : RMb M X) (hp : p < 150) {v f : Nat} (hv1 : v < x_nv X) (hf : f < 4) {post : Int32 → MS → Prop} (h : post (bi (gv X p v f)) M) : wp_X7_gives M (nI p) (nI v) (nI f) post := by
  have hn := hX.1
  have hk := hX.2.2.1 p hp
  have ha8 := ok_ac hk
  have hvi : vp_in (nI p) 150 := vp_in_nI (by omega) (by omega)
  obtain ⟨a1, a2, a3⟩ := hb.2.1 p hp
  have h22 : x_ac X p = 7 ∨ x_ac X p = 8 → wp_X7_gives_22 post (nI p) (nI v) M := fun h78 => by
    have ht := ok_to hk h78
    unfold wp_X7_gives_22
    rw [n_cl (by omega), a3 h78, ekn (by omega) (by omega)]
    refine ⟨hvi, brn (fun c => lf0 h ?_) (fun c => lf1 h (Or.inl ⟨h78, c⟩))⟩
    rintro (z | z)
    · exact c z.2
    · omega
  unfold wp_X7_gives
  rw [n_cl (by omega), a1, ek7 (by omega), ek8 (by omega), ek3 (by omega)]
  refine ⟨hvi, br (fun c => h22 (Or.inl c)) (fun c => ⟨hvi, brn (fun c2 => ⟨hvi, brn (fun c3 => lf0 h ?_) (fun c3 => ⟨hvi, ?_⟩)⟩) (fun c2 => h22 (Or.inr c2))⟩)⟩
  · rintro (z | z)
    · omega
    · omega
  · have h0 : x_ac X p ≠ 0 := by omega
    have ho := ok_of hk h0
    have hw := ok_pa hk h0
    obtain ⟨a2, a4⟩ := a2 h0
    rw [a2, a4, ekn (by omega) (by omega)]
    refine brn (fun c4 => lf0 h ?_) (fun c4 => ⟨hvi, m_isWithin hX hb.1 hv1 hw (bi_brn (fun c5 => lf0 h ?_) (fun c5 => m_isLeafOf hX hb hp h0 (by omega) (bi_br (fun c6 => lf1 h ?_) (fun c6 => lf0 h ?_))))⟩)
    · rintro (z | z)
      · omega
      · exact c4 z.2.1
    · rintro (z | z)
      · omega
      · exact z.2.2.1 c5
    · exact Or.inr ⟨c3, c4, c5, c6⟩
    · rintro (z | z)
      · omega
      · exact c6 z.2.2.2
theorem m_takes (hX : XI X) (hb : RMb M X) (hp : p < 150) {v f : Nat} (hv1 : v < x_nv X) (hf : f < 4) {post : Int32 → MS → Prop} (h : post (bi (tk X p v f)) M) : wp_X7_takes M (nI p) (nI v) (nI f) post := by
  have hn := hX.1
  have hk := hX.2.2.1 p hp
  have ha8 := ok_ac hk
  have h4 := hX.2.1 v hv1
  have hvi : vp_in (nI p) 150 := vp_in_nI (by omega) (by omega)
  obtain ⟨a1, a2, a3⟩ := hb.2.1 p hp
  have h31 : (x_ac X p ≠ 0 → x_of X p = v) → ¬ (x_ac X p = 2 ∧ lf X p f) → wp_X7_takes_31 post (nI p) (nI v) M := fun ho hl => by
    unfold wp_X7_takes_31
    rw [n_cl (by omega), n_cl (by omega), a1, (hb.1.2 v hv1).1, ek5 (by omega), ek8 (by omega), ek2 (by omega)]
    refine ⟨hvi, br (fun c => lf1 h ⟨ho (by omega), Or.inr (Or.inl c)⟩) (fun c => ⟨hvi, brn (fun c2 => lf0 h ?_) (fun c2 => ⟨vp_in_nI (by omega) (by omega), brn (fun c3 => lf0 h ?_) (fun c3 => lf1 h ⟨ho (by omega), Or.inr (Or.inr ⟨c2, c3⟩)⟩)⟩)⟩)⟩
    · rintro ⟨_, z | z | z⟩
      · exact hl z
      · exact c z
      · exact c2 z.1
    · rintro ⟨_, z | z | z⟩
      · exact hl z
      · exact c z
      · exact c3 z.2
  unfold wp_X7_takes
  rw [n_cl (by omega), a1, ek2 (by omega)]
  by_cases h0 : x_ac X p = 0
  · exact ⟨hvi, br (fun c => ⟨hvi, brn (fun c2 => h31 (fun z => absurd h0 z) (fun z => c2 z.1)) (fun c2 => by omega)⟩) (fun c => lf0 h (fun z => by have := z.2; omega))⟩
  · have ho := ok_of hk h0
    rw [(a2 h0).1, ekn (by omega) (by omega)]
    exact ⟨hvi, br (fun c => ⟨hvi, brn (fun c2 => h31 (fun _ => c) (fun z => c2 z.1)) (fun c2 => m_isLeafOf hX hb hp h0 (by omega) (bi_brn (fun c3 => lf1 h ⟨c, Or.inl ⟨c2, c3⟩⟩) (fun c3 => h31 (fun _ => c) (fun z => c3 z.2))))⟩) (fun c => lf0 h (fun z => c z.1))⟩
theorem m_wants (hX : XI X) (hb : RMb M X) (hp : p < 150) {f : Nat} (hf : f < 4) {post : Int32 → MS → Prop} (h : post (bi (wn X p f)) M) : wp_X7_wants M (nI p) (nI f) post := by
  have hn := hX.1
  have hk := hX.2.2.1 p hp
  have ha8 := ok_ac hk
  have hvi : vp_in (nI p) 150 := vp_in_nI (by omega) (by omega)
  obtain ⟨a1, a2, a3⟩ := hb.2.1 p hp
  have h56 : x_ac X p ≠ 0 → x_ac X p ≠ 5 → x_ac X p ≠ 6 → x_ac X p ≠ 8 → ¬ (x_ac X p = 3 ∧ ¬ wi X (x_of X p) (x_pa X p)) → wp_X7_wants_56 post (nI p) (nI f) M := fun q1 q2 q3 q4 q5 => by
    unfold wp_X7_wants_56
    refine m_isLeafOf hX hb hp q1 (by omega) ⟨bi_b _, ?_⟩
    rw [bi_e (show lf X p f ↔ wn X p f from ⟨fun z => Or.inr ⟨q1, q2, q3, q4, q5, z⟩, fun z => by
      rcases z with z | z
      · exact absurd z q4
      · exact z.2.2.2.2.2⟩)]
    exact h
  unfold wp_X7_wants
  refine ⟨hvi, fun x3 e3 => ?_⟩
  subst e3
  rw [n_cl (by omega), a1, ek8 (by omega), ek0 (by omega), ek5 (by omega), ek6 (by omega), ek3 (by omega)]
  refine brn (fun c8 => br (fun c0 => lf0 h ?_) (fun c0 => br (fun c5 => lf0 h ?_) (fun c5 => br (fun c6 => lf0 h ?_) (fun c6 => brn (fun c3 => h56 c0 c5 c6 c8 (fun z => c3 z.1)) (fun c3 => ⟨hvi, hvi, ?_⟩))))) (fun c8 => lf1 h (Or.inl c8))
  · rintro (z | z)
    · exact c8 z
    · exact z.1 c0
  · rintro (z | z)
    · exact c8 z
    · exact z.2.1 c5
  · rintro (z | z)
    · exact c8 z
    · exact z.2.2.1 c6
  · have ho := ok_of hk c0
    have hw := ok_pa hk c0
    rw [(a2 c0).1, (a2 c0).2]
    refine m_isWithin hX hb.1 ho hw (bi_brn (fun c => h56 c0 c5 c6 c8 (fun z => z.2 c)) (fun c => lf0 h ?_))
    rintro (z | z)
    · exact c8 z
    · exact z.2.2.2.2.1 ⟨c3, c⟩
theorem m_makesLoan (hX : XI X) (hb : RMb M X) (hp : p < 150) {post : Int32 → MS → Prop} (h : post (bi (ml X p)) M) : wp_X7_makesLoan M (nI p) post := by
  have hn := hX.1
  have hk := hX.2.2.1 p hp
  have ha8 := ok_ac hk
  have hvi : vp_in (nI p) 150 := vp_in_nI (by omega) (by omega)
  obtain ⟨a1, a2, a3⟩ := hb.2.1 p hp
  unfold wp_X7_makesLoan
  rw [n_cl (by omega), a1, ek7 (by omega)]
  refine ⟨hvi, brn (fun c => lf0 h (fun z => c z.1)) (fun c => ⟨hvi, hvi, ?_⟩)⟩
  have h0 : x_ac X p ≠ 0 := by omega
  have ho := ok_of hk h0
  have hw := ok_pa hk h0
  have hp7 := ok_p7 hk c
  have h4 := hX.2.1 _ ho
  rw [(a2 h0).1, (a2 h0).2]
  refine m_isThrough hX hb.1 ho hw (bi_br (fun c2 => ?_) (fun c2 => lf1 h ⟨c, fun z => ?_⟩))
  · rw [(a2 h0).1, n_cl (by omega), (hb.1.2 _ ho).1, ek1 (by omega)]
    exact ⟨hvi, vp_in_nI (by omega) (by omega), br (fun c3 => lf0 h (fun z => z.2 c3)) (fun c3 => lf1 h ⟨c, c3⟩)⟩
  · have := hp7 (by omega)
    omega
theorem m_renews (hX : XI X) (hb : RMb M X) (hp : p < 150) {r : Nat} (hr : r < x_nv X) {post : Int32 → MS → Prop} (h : post (bi (rn X p r)) M) : wp_X7_renews M (nI p) (nI r) post := by
  have hn := hX.1
  have hk := hX.2.2.1 p hp
  have ha8 := ok_ac hk
  have hvi : vp_in (nI p) 150 := vp_in_nI (by omega) (by omega)
  obtain ⟨a1, a2, a3⟩ := hb.2.1 p hp
  have h32 : ¬ ((x_ac X p = 7 ∨ x_ac X p = 8) ∧ x_to X p = r) → wp_X7_renews_32 post (nI p) (nI r) M := fun hz => by
    unfold wp_X7_renews_32
    rw [n_cl (by omega), a1, ek5 (by omega)]
    refine ⟨hvi, brn (fun c => lf0 h ?_) (fun c => ⟨hvi, ?_⟩)⟩
    · rintro (z | z)
      · exact hz z
      · exact c z.1
    · have ho := ok_of hk (by omega)
      rw [(a2 (by omega)).1, ekn (by omega) (by omega)]
      refine brn (fun c2 => lf0 h ?_) (fun c2 => lf1 h (Or.inr ⟨c, c2⟩))
      rintro (z | z)
      · exact hz z
      · exact c2 z.2
  have h22 : x_ac X p = 7 ∨ x_ac X p = 8 → wp_X7_renews_22 (fun x1 x2 S => wp_X7_renews_32 post x1 x2 S) post (nI p) (nI r) M := fun h78 => by
    have ht := ok_to hk h78
    unfold wp_X7_renews_22
    rw [n_cl (by omega), a3 h78, ekn (by omega) (by omega)]
    exact ⟨hvi, br (fun c => lf1 h (Or.inl ⟨h78, c⟩)) (fun c => h32 (fun z => c z.2))⟩
  unfold wp_X7_renews
  rw [n_cl (by omega), a1, ek7 (by omega), ek8 (by omega)]
  exact ⟨hvi, br (fun c => h22 (Or.inl c)) (fun c => ⟨hvi, brn (fun c2 => h32 (fun z => by omega)) (fun c2 => h22 (Or.inr c2))⟩)⟩
theorem m_renewed (hX : XI X) (hb : RMb M X) (hp : p < 150) {post : Int32 → MS → Prop} (h0 : (∀ r, x_so X r ≠ 0 → ¬ rn X p r) → post (-1) M) (h1 : ∀ r, r < x_nv X → x_so X r ≠ 0 → rn X p r → (∀ r', rn X p r' → r' = r) → post (nI r) M) : wp_X7_renewed M (nI p) post := by
  have hn := hX.1
  have hk := hX.2.2.1 p hp
  have ha8 := ok_ac hk
  have hvi : vp_in (nI p) 150 := vp_in_nI (by omega) (by omega)
  obtain ⟨a1, a2, a3⟩ := hb.2.1 p hp
  have h22 : x_ac X p = 7 ∨ x_ac X p = 8 → wp_X7_renewed_22 post (nI p) M := fun h78 => by
    have ht := ok_to hk h78
    unfold wp_X7_renewed_22
    rw [n_cl (by omega), a3 h78]
    refine ⟨hvi, h1 _ ht.1 ht.2 (Or.inl ⟨h78, rfl⟩) (fun r' z => ?_)⟩
    rcases z with z | z
    · exact z.2.symm
    · omega
  unfold wp_X7_renewed
  rw [n_cl (by omega), a1, ek7 (by omega), ek8 (by omega), ek5 (by omega)]
  refine ⟨hvi, br (fun c => h22 (Or.inl c)) (fun c => ⟨hvi, brn (fun c2 => ⟨hvi, brn (fun c3 => h0 (fun r _ z => ?_)) (fun c3 => ⟨hvi, ?_⟩)⟩) (fun c2 => h22 (Or.inr c2))⟩)⟩
  · rcases z with z | z
    · omega
    · omega
  · have ho := ok_of hk (by omega)
    have h4 := hX.2.1 _ ho
    rw [(a2 (by omega)).1, n_cl (by omega), (hb.1.2 _ ho).1, ek0 (by omega)]
    refine ⟨vp_in_nI (by omega) (by omega), br (fun c4 => h0 (fun r hr z => ?_)) (fun c4 => ⟨hvi, h1 _ ho c4 (Or.inr ⟨c3, rfl⟩) (fun r' z => ?_)⟩)⟩
    · rcases z with z | z
      · omega
      · rw [← z.2] at hr; exact hr c4
    · rcases z with z | z
      · omega
      · exact z.2.symm
theorem m_uses (hX : XI X) (hb : RMb M X) (hp : p < 150) {r : Nat} (hr : r < x_nv X) {post : Int32 → MS → Prop} (h : post (bi (us X p r)) M) : wp_X7_uses M (nI p) (nI r) post := by
  have hn := hX.1
  have hk := hX.2.2.1 p hp
  have ha8 := ok_ac hk
  have hvi : vp_in (nI p) 150 := vp_in_nI (by omega) (by omega)
  obtain ⟨a1, a2, a3⟩ := hb.2.1 p hp
  unfold wp_X7_uses
  rw [n_cl (by omega), a1, ek8 (by omega), ek0 (by omega), ek5 (by omega), ek6 (by omega)]
  have hus : us X p r → x_ac X p ≠ 0 ∧ x_ac X p ≠ 5 ∧ x_ac X p ≠ 6 ∧ x_of X p = r := fun z => by
    unfold us onp at z; omega
  refine ⟨hvi, brn (fun c8 => ⟨hvi, br (fun c => lf0 h (fun z => (hus z).1 c)) (fun c0 => ⟨hvi, br (fun c => lf0 h (fun z => (hus z).2.1 c)) (fun c5 => ⟨hvi, br (fun c => lf0 h (fun z => (hus z).2.2.1 c)) (fun c6 => ⟨hvi, ?_⟩)⟩)⟩)⟩) (fun c8 => ⟨hvi, ?_⟩)⟩
  · have ho := ok_of hk c0
    have hw := ok_pa hk c0
    rw [(a2 c0).1, (a2 c0).2, ekn (by omega) (by omega)]
    refine brn (fun c => lf0 h (fun z => c (hus z).2.2.2)) (fun c => ⟨hvi, m_isThrough hX hb.1 hr hw (bi_br (fun c2 => lf1 h ?_) (fun c2 => lf0 h ?_))⟩)
    · unfold us onp; omega
    · unfold us onp; omega
  · have ho := ok_of hk (by omega)
    rw [(a2 (by omega)).1, ekn (by omega) (by omega)]
    exact brn (fun c => lf0 h (fun z => c (hus z).2.2.2)) (fun c => lf1 h (Or.inl ⟨c8, c⟩))
theorem m_goesThrough (hX : XI X) (hb : RMb M X) (hp : p < 150) (h7 : x_ac X p = 7) {r : Nat} (hr : r < x_nv X) {post : Int32 → MS → Prop} (h : post (bi (x_of X p = r ∧ x_so X r ≠ 0)) M) : wp_X7_goesThrough M (nI p) (nI r) post := by
  have hn := hX.1
  have hk := hX.2.2.1 p hp
  have hvi : vp_in (nI p) 150 := vp_in_nI (by omega) (by omega)
  have h0 : x_ac X p ≠ 0 := by omega
  have ho := ok_of hk h0
  have hw := ok_pa hk h0
  have hp7 := ok_p7 hk h7
  obtain ⟨a1, a2, a3⟩ := hb.2.1 p hp
  unfold wp_X7_goesThrough
  rw [n_cl (by omega), (a2 h0).1, (a2 h0).2, ekn (by omega) (by omega)]
  refine ⟨hvi, brn (fun c => lf0 h (fun z => c z.1)) (fun c => ⟨hvi, m_isThrough hX hb.1 hr hw (bi_br (fun c2 => lf1 h ⟨c, c2.1⟩) (fun c2 => lf0 h (fun z => c2 ⟨z.2, ?_⟩)))⟩)⟩
  have := hp7 (by rw [c]; exact z.2)
  omega
theorem m_begins_loop {post : Int32 → MS → Prop} : ∀ (k a b : Nat), k ≤ 4 → a < 4096 → b < 8 ^ k → post (bi (prf k a b)) M → wp_X7_begins__4 post (k + 1) (nI a) (nI b) M := by
  intro k
  induction k with
  | zero =>
    intro a b _ ha hb h
    have e : b = 0 := by rw [Nat.pow_zero] at hb; omega
    subst e
    show ws_X7_begins__4 _ post _ _ M
    unfold ws_X7_begins__4 wp_X7_begins__32
    exact brt (by decide) (brnf rfl (lf1 h rfl))
  | succ k ih =>
    intro a b hk ha hb h
    rw [Nat.pow_succ] at hb
    have hp : 8 ^ k ≤ 512 := by
      have : 8 ^ k ≤ 8 ^ 3 := Nat.pow_le_pow_right (by omega) (by omega)
      omega
    show ws_X7_begins__4 _ post _ _ M
    unfold ws_X7_begins__4 wp_X7_begins__32
    rw [n_r8 (by omega), n_r8 (by omega), n_q8 (by omega), n_q8 (by omega), ek0 (by omega), ekn (by omega) (by omega)]
    refine br (fun c => ?_) (fun c => ?_)
    · have e := (n_le0 (by omega)).mp c
      exact brnf e (lf1 h (Or.inl e))
    · have e : b ≠ 0 := fun e => c ((n_le0 (by omega)).mpr e)
      refine brn (fun c2 => brnt e (lf0 h ?_)) (fun c2 x2 e2 x3 e3 => ?_)
      · rintro (z | z)
        · exact e z
        · exact c2 z.1
      · subst e2; subst e3
        refine ih (a / 8) (b / 8) (by omega) (by omega) (by omega) ?_
        rw [bi_e (show prf (k + 1) a b ↔ prf k (a / 8) (b / 8) from ⟨fun z => z.elim (fun z => absurd z e) (fun z => z.2), fun z => Or.inr ⟨c2, z⟩⟩)] at h
        exact h
theorem m_begins_ {a b : Nat} (ha : a < 4096) (hb : b < 4096) {post : Int32 → MS → Prop} (h : post (bi (prf 4 a b)) M) : wp_X7_begins_ M (nI a) (nI b) post := ⟨_, m_begins_loop 4 a b (by omega) ha (by omega) h⟩
theorem m_clashes (hX : XI X) (hb : RMb M X) {l : Nat} (hl : l < 150) (h7 : x_ac X l = 7) (hp : p < 150) {post : Int32 → MS → Prop} (h : post (bi (cls X l p)) M) : wp_X7_clashes M (nI l) (nI p) post := by
  have hn := hX.1
  have hk := hX.2.2.1 p hp
  have ha8 := ok_ac hk
  have hkl := hX.2.2.1 l hl
  have hvp : vp_in (nI p) 150 := vp_in_nI (by omega) (by omega)
  have hvl : vp_in (nI l) 150 := vp_in_nI (by omega) (by omega)
  obtain ⟨a1, a2, a3⟩ := hb.2.1 p hp
  obtain ⟨b1, b2, b3⟩ := hb.2.1 l hl
  have hol := ok_of hkl (by omega)
  have hwl := ok_pa hkl (by omega)
  have htl := ok_to hkl (Or.inl h7)
  have h4l := hX.2.1 _ htl.1
  obtain ⟨b2, b4⟩ := b2 (by omega)
  have b3 := b3 (Or.inl h7)
  have h151 : x_ac X p ≠ 0 → x_ac X p ≠ 5 → x_of X p = x_of X l → ¬ (x_ac X p = 6 ∧ x_so X (x_of X p) ≠ 0) → (x_so X (x_to X l) = 2 ∨ ¬ soft X p) → wp_X7_clashes_151 post (nI l) (nI (x_pa X p)) M := fun q1 q2 q3 q4 q5 => by
    have hw := ok_pa hk q1
    unfold wp_X7_clashes_151
    rw [n_cl (by omega), b4]
    exact ⟨hvl, m_begins_ hw hwl (bi_brn (fun c => lf1 h ⟨q1, q2, q3, q4, q5, Or.inl c⟩) (fun c => by
      rw [b4]
      exact ⟨hvl, m_begins_ hwl hw (bi_br (fun c2 => lf1 h ⟨q1, q2, q3, q4, q5, Or.inr c2⟩) (fun c2 => lf0 h (fun z => z.2.2.2.2.2.elim c c2)))⟩))⟩
  have h129 : ∀ k, x_ac X p ≠ 0 → x_ac X p ≠ 5 → x_of X p = x_of X l → ¬ (x_ac X p = 6 ∧ x_so X (x_of X p) ≠ 0) → k = bi (soft X p) → wp_X7_clashes_129 post (nI l) k (nI (x_pa X p)) M := fun k q1 q2 q3 q4 ek => by
    subst ek
    unfold wp_X7_clashes_129
    rw [n_cl (j := l) (by omega), b3, n_cl (by omega), (hb.1.2 _ htl.1).1, ek2 (by omega)]
    exact ⟨hvl, vp_in_nI (by omega) (by omega), br (fun c => h151 q1 q2 q3 q4 (Or.inl c)) (fun c => bi_brn (fun c2 => lf0 h (fun z => z.2.2.2.2.1.elim c (fun y => y c2))) (fun c2 => h151 q1 q2 q3 q4 (Or.inr c2)))⟩
  have h105 : ∀ k, x_ac X p ≠ 0 → x_ac X p ≠ 5 → x_of X p = x_of X l → ¬ (x_ac X p = 6 ∧ x_so X (x_of X p) ≠ 0) → k = bi (soft X p) → wp_X7_clashes_105 post (nI l) (nI p) (nI (x_ac X p)) k M := fun k q1 q2 q3 q4 ek => by
    have hh := h129 k q1 q2 q3 q4 ek
    unfold wp_X7_clashes_105 wp_X7_clashes_119
    rw [n_cl (by omega), (a2 q1).2, ek6 (by omega), ek8 (by omega)]
    have hz : x_ac X p = 6 ∨ x_ac X p = 8 → x_pa X p = 0 := fun z => by
      have := hk
      unfold actOk at this; omega
    have h0 : x_ac X p = 6 ∨ x_ac X p = 8 → wp_X7_clashes_129 post (nI l) k 0 M := fun z => by
      rw [hz z] at hh; exact hh
    exact br (fun c => h0 (Or.inl c)) (fun c => brn (fun c2 => ⟨hvp, hh⟩) (fun c2 => h0 (Or.inr c2)))
  have h53 : x_ac X p ≠ 0 → x_ac X p ≠ 5 → x_of X p = x_of X l → ¬ (x_ac X p = 6 ∧ x_so X (x_of X p) ≠ 0) → wp_X7_clashes_53 post (nI l) (nI p) (nI (x_ac X p)) M := fun q1 q2 q3 q4 => by
    have y1 : soft X p → wp_X7_clashes_100 (fun x1 x2 x3 k0 S => wp_X7_clashes_105 post x1 x2 x3 k0 S) post (nI l) (nI p) (nI (x_ac X p)) M := fun z => by
      unfold wp_X7_clashes_100
      exact h105 1 q1 q2 q3 q4 (bi_t z).symm
    have y0 : ¬ soft X p → wp_X7_clashes_104 (fun x1 x2 x3 k0 S => wp_X7_clashes_105 post x1 x2 x3 k0 S) post (nI l) (nI p) (nI (x_ac X p)) M := fun z => by
      unfold wp_X7_clashes_104
      exact h105 0 q1 q2 q3 q4 (bi_f z).symm
    have ho := ok_of hk q1
    have h4 := hX.2.1 _ ho
    have h79 : ¬ x_ac X p = 1 → ¬ (x_ac X p = 7 ∧ x_so X (x_to X p) = 1) → wp_X7_clashes_79 (fun x1 x2 x3 S => wp_X7_clashes_100 (fun x1 x2 x3 k0 S => wp_X7_clashes_105 post x1 x2 x3 k0 S) post x1 x2 x3 S) (fun x1 x2 x3 k0 S => wp_X7_clashes_105 post x1 x2 x3 k0 S) post (nI l) (nI p) (nI (x_ac X p)) M := fun z1 z2 => by
      unfold wp_X7_clashes_79
      rw [n_cl (j := p) (by omega), (a2 q1).1, n_cl (by omega), (hb.1.2 _ ho).1, ek8 (by omega), ek1 (by omega)]
      refine brn (fun c => y0 ?_) (fun c => ⟨hvp, vp_in_nI (by omega) (by omega), brn (fun c2 => y0 ?_) (fun c2 => y1 (Or.inr (Or.inr ⟨c, c2⟩)))⟩)
      · rintro (z | z | z)
        · exact z1 z
        · exact z2 z
        · exact c z.1
      · rintro (z | z | z)
        · exact z1 z
        · exact z2 z
        · exact c2 z.2
    unfold wp_X7_clashes_53
    rw [ek1 (by omega), ek7 (by omega)]
    refine br (fun c => y1 (Or.inl c)) (fun c => brn (fun c2 => h79 c (fun z => c2 z.1)) (fun c2 => ?_))
    have ht := ok_to hk (Or.inl c2)
    have h4t := hX.2.1 _ ht.1
    rw [n_cl (j := p) (by omega), a3 (Or.inl c2), n_cl (by omega), (hb.1.2 _ ht.1).1, ek1 (by omega)]
    exact ⟨hvp, vp_in_nI (by omega) (by omega), br (fun c3 => y1 (Or.inr (Or.inl ⟨c2, c3⟩))) (fun c3 => h79 c (fun z => c3 z.2))⟩
  unfold wp_X7_clashes
  refine ⟨hvp, fun x3 e3 => ?_⟩
  subst e3
  rw [n_cl (j := p) (by omega), n_cl (j := l) (by omega), a1, b2, ek0 (by omega), ek5 (by omega), ek6 (by omega)]
  refine br (fun c => lf0 h (fun z => z.1 c)) (fun c0 => br (fun c => lf0 h (fun z => z.2.1 c)) (fun c5 => ⟨hvp, hvl, ?_⟩))
  have ho := ok_of hk c0
  have h4 := hX.2.1 _ ho
  rw [(a2 c0).1, ekn (by omega) (by omega)]
  refine brn (fun c => lf0 h (fun z => c z.2.2.1)) (fun c => brn (fun c6 => h53 c0 c5 c (fun z => c6 z.1)) (fun c6 => ⟨hvp, vp_in_nI (by omega) (by omega), ?_⟩))
  rw [n_cl (by omega), (hb.1.2 _ ho).1, ek0 (by omega)]
  exact br (fun c7 => h53 c0 c5 c (fun z => z.2 c7)) (fun c7 => lf0 h (fun z => z.2.2.2.1 ⟨c6, c7⟩))
end MRW

/-- pairs of a loan and a point at which it is in force -/
noncomputable def prs (X : XT) : Nat := sm (fun p => cnt (fun l => ml X l ∧ frc X l p) 150) 150
noncomputable def can (X : XT) (x : Int32) : Int32 := @ite _ (x = 0) (Classical.propDecidable _) (nI (x_nv X)) (@ite _ (x = 1) (Classical.propDecidable _) (nI (cnt (ml X) 150)) (@ite _ (x = 2) (Classical.propDecidable _) (nI (cnt (rch X) 150)) (@ite _ (x = 3) (Classical.propDecidable _) (nI (prs X)) (@ite _ (x = 4) (Classical.propDecidable _) (nI (cnt (lks X) 150)) (@ite _ (x = 5) (Classical.propDecidable _) (nI (cnt (clp X) 150)) (-1))))))
theorem pc_cnt {X : XT} (hX : XI X) {Q : Nat → Prop} {w : Int64} (hw : ∀ i, i < 64 → (lb w i = true ↔ ∃ l, l < 150 ∧ ml X l ∧ i = cnt (ml X) l ∧ Q l)) : pc w = cnt (fun l => ml X l ∧ Q l) 150 := by
  have h60 := ml_60 hX
  have key : ∀ n, n ≤ 150 → cnt (fun i => ∃ l, l < n ∧ ml X l ∧ i = cnt (ml X) l ∧ Q l) 64 = cnt (fun l => ml X l ∧ Q l) n := by
    intro n
    induction n with
    | zero =>
      intro _
      have : ∀ m, cnt (fun i => ∃ l, l < 0 ∧ ml X l ∧ i = cnt (ml X) l ∧ Q l) m = 0 := fun m => by
        induction m with
        | zero => rfl
        | succ m ih => rw [cnt_s_f (P := fun i => ∃ l, l < 0 ∧ ml X l ∧ i = cnt (ml X) l ∧ Q l) (fun ⟨l, h, _⟩ => by omega), ih]
      exact this 64
    | succ n ih =>
      intro hn
      have hi := ih (by omega)
      by_cases h : ml X n ∧ Q n
      · rw [cnt_s_t (P := fun l => ml X l ∧ Q l) h, ← hi]
        have hlt := cnt_lt_of (P := ml X) (a := n) (b := 150) (by omega) h.1
        rw [← cnt_add (P := fun i => ∃ l, l < n ∧ ml X l ∧ i = cnt (ml X) l ∧ Q l) (p := cnt (ml X) n) (n := 64) (by omega) (fun ⟨l, q1, q2, q3, q4⟩ => by have := cnt_inj h.1 q2 q3; omega)]
        refine cnt_congr (fun i _ => ⟨fun ⟨l, q1, q2, q3, q4⟩ => ?_, fun q => ?_⟩)
        · by_cases e : l = n
          · subst e; exact Or.inr q3
          · exact Or.inl ⟨l, by omega, q2, q3, q4⟩
        · rcases q with ⟨l, q1, q2⟩ | q
          · exact ⟨l, by omega, q2⟩
          · exact ⟨n, by omega, h.1, q, h.2⟩
      · rw [cnt_s_f (P := fun l => ml X l ∧ Q l) h, ← hi]
        refine cnt_congr (fun i _ => ⟨fun ⟨l, q1, q2, q3, q4⟩ => ?_, fun ⟨l, q1, q2⟩ => ⟨l, by omega, q2⟩⟩)
        by_cases e : l = n
        · subst e; exact absurd ⟨q2, q4⟩ h
        · exact ⟨l, by omega, q2, q3, q4⟩
  rw [← key 150 (Nat.le_refl _)]
  exact cnt_congr (fun i hi => hw i hi)
section CCN
variable {S : CS} {X : XT}
theorem s_countForce (hX : XI X) (hR : RC S X) (hl1 : ¬ gC_lK S = 0) {post : Int32 → CS → Prop} (h : post (nI (prs X)) S) : wp_X6_countInForce S post := by
  have key : ∀ (k i : Nat), i + k = 150 → wp_X6_countInForce_4 post (k + 1) (nI (sm (fun p => cnt (fun l => ml X l ∧ frc X l p) 150) i)) (nI i) S := by
    intro k
    induction k with
    | zero =>
      intro i hi
      have : i = 150 := by omega
      subst this
      show ws_X6_countInForce_4 _ post _ _ S
      unfold ws_X6_countInForce_4
      exact brt ((xc (a := 150) (b := 150) (by omega) (by omega)).mpr (Nat.le_refl _)) h
    | succ k ih =>
      intro i hi
      show ws_X6_countInForce_4 _ post _ _ S
      unfold ws_X6_countInForce_4
      refine brf (fun q => absurd ((xc (a := 150) (b := i) (by omega) (by omega)).mp q) (by omega)) (s_inForce hX hR hl1 (by omega) (fun w hw => s_bitCount (fun x1 e1 x2 e2 => ?_)))
      subst e1; subst e2
      rw [show nI i + (1 : Int32) = nI (i + 1) from nI_1 i, nI_add, pc_cnt hX hw]
      exact ih (i + 1) (by omega)
  exact ⟨_, key 150 0 (by omega)⟩
theorem s_countUnheld (hX : XI X) (hR : RC S X) (hw1 : ¬ gC_wK S = 0) (he1 : ¬ gC_eK S = 0) {post : Int32 → CS → Prop} (h : post (nI (cnt (lks X) 150)) S) : wp_X6_countUnheld S post := by
  have key : ∀ (k i : Nat), i + k = 150 → wp_X6_countUnheld_4 post (k + 1) (nI (cnt (lks X) i)) (nI i) S := by
    intro k
    induction k with
    | zero =>
      intro i hi
      have : i = 150 := by omega
      subst this
      show ws_X6_countUnheld_4 _ post _ _ S
      unfold ws_X6_countUnheld_4
      exact brt ((xc (a := 150) (b := 150) (by omega) (by omega)).mpr (Nat.le_refl _)) h
    | succ k ih =>
      intro i hi
      show ws_X6_countUnheld_4 _ post _ _ S
      unfold ws_X6_countUnheld_4 wp_X6_countUnheld_30
      have hn := ih (i + 1) (by omega)
      refine brf (fun q => absurd ((xc (a := 150) (b := i) (by omega) (by omega)).mp q) (by omega)) (s_missing hX hR hw1 he1 (by omega) (fun w hw => br (fun c => s_answer (Or.inl rfl) (fun x1 e1 x2 e2 => ?_)) (fun c => s_answer (Or.inr rfl) (fun x1 e1 x2 e2 => ?_))))
      · subst e1; subst e2
        rw [cnt_s_f ((miss_iff hX (by omega) hw).mp c)] at hn
        rw [show nI i + (1 : Int32) = nI (i + 1) from nI_1 i, show nI (cnt (lks X) i) + (0 : Int32) = nI (cnt (lks X) i) from nI_add _ 0]
        exact hn
      · subst e1; subst e2
        rw [cnt_s_t (Classical.byContradiction (fun z => c ((miss_iff hX (by omega) hw).mpr z)))] at hn
        rw [show nI i + (1 : Int32) = nI (i + 1) from nI_1 i, show nI (cnt (lks X) i) + (1 : Int32) = nI (cnt (lks X) i + 1) from nI_1 _]
        exact hn
  exact ⟨_, key 150 0 (by omega)⟩
theorem s_countClash (hX : XI X) (hR : RC S X) (hl1 : ¬ gC_lK S = 0) {post : Int32 → CS → Prop} (h : post (nI (cnt (clp X) 150)) S) : wp_X6_countClashing S post := by
  have key : ∀ (k i : Nat), i + k = 150 → wp_X6_countClashing_4 post (k + 1) (nI (cnt (clp X) i)) (nI i) S := by
    intro k
    induction k with
    | zero =>
      intro i hi
      have : i = 150 := by omega
      subst this
      show ws_X6_countClashing_4 _ post _ _ S
      unfold ws_X6_countClashing_4
      exact brt ((xc (a := 150) (b := 150) (by omega) (by omega)).mpr (Nat.le_refl _)) h
    | succ k ih =>
      intro i hi
      show ws_X6_countClashing_4 _ post _ _ S
      unfold ws_X6_countClashing_4 wp_X6_countClashing_29
      have hn := ih (i + 1) (by omega)
      refine brf (fun q => absurd ((xc (a := 150) (b := i) (by omega) (by omega)).mp q) (by omega)) (s_leastClash hX hR hl1 (by omega) (br (fun c => s_answer (Or.inl rfl) (fun x1 e1 x2 e2 => ?_)) (fun c => s_answer (Or.inr rfl) (fun x1 e1 x2 e2 => ?_))))
      · subst e1; subst e2
        rw [cnt_s_f ((clp_lea hX).mp c)] at hn
        rw [show nI i + (1 : Int32) = nI (i + 1) from nI_1 i, show nI (cnt (clp X) i) + (0 : Int32) = nI (cnt (clp X) i) from nI_add _ 0]
        exact hn
      · subst e1; subst e2
        rw [cnt_s_t (Classical.byContradiction (fun z => c ((clp_lea hX).mpr z)))] at hn
        rw [show nI i + (1 : Int32) = nI (i + 1) from nI_1 i, show nI (cnt (clp X) i) + (1 : Int32) = nI (cnt (clp X) i + 1) from nI_1 _]
        exact hn
  exact ⟨_, key 150 0 (by omega)⟩
theorem c_count (hX : XI X) (hR : RC S X) {x1 : Int32} {post : Int32 → CS → Prop} (h : ∀ S', RC S' X → post (can X x1) S') : wp_X6_count S x1 post := by
  unfold can at h
  unfold wp_X6_count
  refine ⟨fun c => ?_, fun c => ?_, fun c => ?_, fun c => ?_, fun c => ?_, fun c => ?_, fun c => ?_⟩
  · have hp := h S hR
    have hne : ∀ k : Int32, 0 ≤ k.toInt → k.toInt ≤ 5 → ¬ x1 = k := fun k h1 h2 e => by subst e; omega
    rw [if_neg (hne 0 (by decide) (by decide)), if_neg (hne 1 (by decide) (by decide)), if_neg (hne 2 (by decide) (by decide)), if_neg (hne 3 (by decide) (by decide)), if_neg (hne 4 (by decide) (by decide)), if_neg (hne 5 (by decide) (by decide))] at hp
    exact hp
  · subst c
    have hp := h S hR
    rw [if_pos rfl] at hp
    refine s_size4 ?_
    rw [hR.1.1.1]; exact hp
  · subst c
    refine s_knowLoans hX hR (fun S1 hR1 _ hl1 _ => ?_)
    have hp := h S1 hR1
    rw [if_neg (by decide), if_pos rfl] at hp
    unfold wp_X2_size
    rw [(hR1.2.2.2 hl1).2.1.1]; exact hp
  · subst c
    refine s_knowWays hX hR (fun S1 hR1 hw1 _ _ => ?_)
    have hp := h S1 hR1
    rw [if_neg (by decide), if_neg (by decide), if_pos rfl] at hp
    refine s_size5 ?_
    obtain ⟨⟨n, h1, h2, h3, _⟩, _⟩ := hR1.2.1 hw1
    rw [h2, h3]; exact hp
  · subst c
    refine s_knowLoans hX hR (fun S1 hR1 _ hl1 _ => s_countForce hX hR1 hl1 ?_)
    have hp := h S1 hR1
    rw [if_neg (by decide), if_neg (by decide), if_neg (by decide), if_pos rfl] at hp
    exact hp
  · subst c
    refine s_knowLeaves hX hR (fun S1 hR1 hw1 he1 _ => s_countUnheld hX hR1 hw1 he1 ?_)
    have hp := h S1 hR1
    rw [if_neg (by decide), if_neg (by decide), if_neg (by decide), if_neg (by decide), if_pos rfl] at hp
    exact hp
  · subst c
    refine s_knowLoans hX hR (fun S1 hR1 _ hl1 _ => s_countClash hX hR1 hl1 ?_)
    have hp := h S1 hR1
    rw [if_neg (by decide), if_neg (by decide), if_neg (by decide), if_neg (by decide), if_neg (by decide), if_pos rfl] at hp
    exact hp
end CCN

theorem cnt_mle {P : Nat → Prop} {a b : Nat} (h : a ≤ b) : cnt P a ≤ cnt P b := by
  induction b with
  | zero => have : a = 0 := by omega
            subst this; exact Nat.le_refl _
  | succ b ih =>
    by_cases e : a = b + 1
    · rw [e]; exact Nat.le_refl _
    · have := ih (by omega)
      by_cases hp : P b
      · rw [cnt_s_t hp]; omega
      · rw [cnt_s_f hp]; omega
theorem cnt_lt_of {P : Nat → Prop} {a b : Nat} (h : a < b) (hp : P a) : cnt P a < cnt P b := by
  have := cnt_mle (P := P) (a := a + 1) (b := b) h
  rw [cnt_s_t hp] at this; omega
theorem cnt_inj {P : Nat → Prop} {a b : Nat} (ha : P a) (hb : P b) (h : cnt P a = cnt P b) : a = b := by
  rcases Nat.lt_trichotomy a b with q | q | q
  · have := cnt_lt_of q ha; omega
  · exact q
  · have := cnt_lt_of q hb; omega
theorem cnt_eqn {P : Nat → Prop} {a b : Nat} (h : cnt P a = cnt P b) : ∀ k, a ≤ k → k < b → ¬ P k := fun k h1 h2 hp => by
  have := cnt_mle (P := P) (a := a) (b := k) h1
  have := cnt_lt_of h2 hp
  omega
theorem ml_60 {X : XT} (hX : XI X) : cnt (ml X) 150 ≤ 60 := Nat.le_trans (cnt_mono (fun k _ h => h.1)) hX.2.2.2.2.2
def eqL (S S' : CS) : Prop := S'.1 = S.1 ∧ S'.2.1 = S.2.1 ∧ S'.2.2.1 = S.2.2.1 ∧ S'.2.2.2.1 = S.2.2.2.1 ∧ S'.2.2.2.2.2 = S.2.2.2.2.2
theorem eqL_n {S S' : CS} (h : eqL S S') : gC_nexts S' = gC_nexts S ∧ gC_ncnt S' = gC_ncnt S ∧ gC_order S' = gC_order S ∧ gC_reached S' = gC_reached S ∧ gC_tried S' = gC_tried S := by
  unfold gC_nexts gC_ncnt gC_order gC_reached gC_tried; rw [h.2.2.1]; exact ⟨rfl, rfl, rfl, rfl, rfl⟩
theorem eqL_b {S S' : CS} {X : XT} (h : eqL S S') (q : RCb S X) : RCb S' X := ⟨RCv_eq h.1 q.1, RCa_eq h.2.1 q.2.1, RCd_eq h.2.1 q.2.2.1, RCn_eq (eqL_n h).1 (eqL_n h).2.1 q.2.2.2⟩
theorem eqL_w {S S' : CS} {X : XT} (h : eqL S S') (q : VW S X) : VW S' X := by
  obtain ⟨h1, h2, h3, h4, h5⟩ := eqL_n h
  unfold VW at *
  rw [h3, h4, h5]; exact q
theorem eqL_e {S S' : CS} {X : XT} (h : eqL S S') (q : VE S X) : VE S' X := by
  unfold VE gC_onAll gC_onSome at *
  rw [h.2.2.2.1]; exact q
theorem eqL_t {S S' S'' : CS} (h : eqL S S') (h' : eqL S' S'') : eqL S S'' := ⟨h'.1.trans h.1, h'.2.1.trans h.2.1, h'.2.2.1.trans h.2.2.1, h'.2.2.2.1.trans h.2.2.2.1, h'.2.2.2.2.trans h.2.2.2.2⟩
section CLO
variable {S : CS} {X : XT}
theorem s_makesLoan (hX : XI X) (hb : RCb S X) {p : Nat} (hp : p < 150) {post : Int32 → CS → Prop} (h : post (bi (ml X p)) S) : wp_X0_makesLoan S (nI p) post := by
  have hk := hX.2.2.1 p hp
  have ha8 := ok_ac hk
  have hn := hX.1
  unfold wp_X0_makesLoan
  rw [n_cl (by omega), (hb.2.1.1 p hp).1]
  have hvp : vp_in (nI p) 150 := vp_in_nI (by omega) (by omega)
  refine ⟨hvp, brn (fun c => lf0 h (fun q => c (by rw [q.1]; rfl))) (fun c => ⟨hvp, ?_⟩)⟩
  have e7 := (xe (a := x_ac X p) (b := 7) (by omega) (by omega)).mp c
  have ho := ok_of hk (by omega)
  rw [((hb.2.1.1 p hp).2.1 (by omega)).1]
  refine s_isSh hX hb.1 (bi_brn (fun c2 => lf0 h ?_) (fun c2 => lf1 h ⟨e7, fun e => c2 ⟨_, ho, rfl, e⟩⟩))
  obtain ⟨v2, q1, q2, q3⟩ := c2
  have := n_inj (by omega) (by omega) q2
  subst this
  exact fun q => q.2 q3
theorem s_makesSole (hX : XI X) (hb : RCb S X) {p : Nat} (hp : p < 150) {post : Int32 → CS → Prop} (h : post (bi (ml X p ∧ x_so X (x_to X p) = 2)) S) : wp_X0_makesSoleLoan S (nI p) post := by
  have hk := hX.2.2.1 p hp
  have hn := hX.1
  unfold wp_X0_makesSoleLoan
  refine s_makesLoan hX hb hp (bi_br (fun c => ?_) (fun c => lf0 h (fun q => c q.1)))
  rw [n_cl (by omega)]
  have ht := (ok_to hk (Or.inl c.1)).1
  refine ⟨vp_in_nI (by omega) (by omega), ?_⟩
  rw [(hb.2.1.1 p hp).2.2 (Or.inl c.1)]
  refine s_isSo hX hb.1 (bi_br (fun c2 => lf1 h ⟨c, ?_⟩) (fun c2 => lf0 h (fun q => c2 ⟨_, ht, rfl, q.2⟩)))
  obtain ⟨v2, q1, q2, q3⟩ := c2
  have := n_inj (by omega) (by omega) q2
  subst this
  exact q3
theorem s_variableAt {p : Nat} (hp : p < 150) {post : Int32 → CS → Prop} (h : post (gC_places S p) S) : wp_X0_variableAt S (nI p) post := by
  unfold wp_X0_variableAt; rw [n_cl (by omega)]; exact ⟨vp_in_nI (by omega) (by omega), h⟩
theorem s_pathAt {p : Nat} (hp : p < 150) {post : Int32 → CS → Prop} (h : post (gC_paths S p) S) : wp_X0_pathAt S (nI p) post := by
  unfold wp_X0_pathAt; rw [n_cl (by omega)]; exact ⟨vp_in_nI (by omega) (by omega), h⟩
theorem s_renewedAt {p : Nat} (hp : p < 150) {post : Int32 → CS → Prop} (h : post (gC_renR S p) S) : wp_X0_renewedAt S (nI p) post := by
  unfold wp_X0_renewedAt; rw [n_cl (by omega)]; exact ⟨vp_in_nI (by omega) (by omega), h⟩
theorem s_usedAt {p : Nat} (hp : p < 150) {post : Int32 → CS → Prop} (h : post (gC_usedR S p) S) : wp_X0_usedAt S (nI p) post := by
  unfold wp_X0_usedAt; rw [n_cl (by omega)]; exact ⟨vp_in_nI (by omega) (by omega), h⟩
end CLO
/-- the loans of the points below n are numbered -/
def NI (S : CS) (X : XT) (n : Nat) : Prop := gC_lmade S = nI (cnt (ml X) n) ∧ (∀ p, p < n → ml X p → gC_bits S p = (1 : Int64) <<< ((nI (cnt (ml X) p)).toInt64 &&& 63) ∧ gC_makers S (cnt (ml X) p) = nI p) ∧ (∀ p, p < 150 → ¬ (p < n ∧ ml X p) → gC_bits S p = 0) ∧ (∀ v i, v < x_nv X → i < 64 → (lb (gC_loansOf S v) i = true ↔ ∃ p, p < n ∧ ml X p ∧ i = cnt (ml X) p ∧ x_of X p = v)) ∧ (∀ i, i < 64 → (lb (gC_soleL S) i = true ↔ ∃ p, p < n ∧ ml X p ∧ i = cnt (ml X) p ∧ x_so X (x_to X p) = 2))
theorem NI_V {S : CS} {X : XT} {n : Nat} (hn : n ≤ 150) (he : cnt (ml X) n = cnt (ml X) 150) (h : NI S X n) : VLn S X := by
  have hno := cnt_eqn he
  have hlt : ∀ p, p < 150 → ml X p → p < n := fun p hp hm => Classical.byContradiction (fun q => hno p (by omega) hp hm)
  obtain ⟨h1, h2, h3, h4, h5⟩ := h
  refine ⟨by rw [← he]; exact h1, fun p hp hm => h2 p (hlt p hp hm) hm, fun p hp hm => h3 p hp (fun q => hm q.2), fun v i hv hi => ?_, fun i hi => ?_⟩
  · rw [h4 v i hv hi]
    exact ⟨fun ⟨p, q1, q2, q3⟩ => ⟨p, by omega, q2, q3⟩, fun ⟨p, q1, q2, q3⟩ => ⟨p, hlt p q1 q2, q2, q3⟩⟩
  · rw [h5 i hi]
    exact ⟨fun ⟨p, q1, q2, q3⟩ => ⟨p, by omega, q2, q3⟩, fun ⟨p, q1, q2, q3⟩ => ⟨p, hlt p q1 q2, q2, q3⟩⟩
theorem s_number {S : CS} {X : XT} (hX : XI X) (hb : RCb S X) {post : CS → Prop} (h : ∀ S', eqL S S' → VLn S' X → post S') : wp_X2_number S post := by
  have h60 := ml_60 hX
  have hn := hX.1
  unfold wp_X2_number
  intro S1 e1 S2 e2 S3 e3 S4 e4
  have key : ∀ (k n : Nat) (S5 : CS), n + k = 150 → eqL S S5 → NI S5 X n → wp_X2_number_28 post (k + 1) (nI n) S5 := by
    intro k
    induction k with
    | zero =>
      intro n S5 hk heq hN
      show ws_X2_number_28 _ post _ S5
      unfold ws_X2_number_28
      have : n = 150 := by omega
      subst this
      exact brt ((xc (a := 150) (b := 150) (by omega) (by omega)).mpr (Nat.le_refl _)) (h S5 heq (NI_V (Nat.le_refl _) rfl hN))
    | succ k ih =>
      intro n S5 hk heq hN
      have hb5 := eqL_b heq hb
      have hle : cnt (ml X) n ≤ cnt (ml X) 150 := cnt_mle (by omega)
      have hN0 := hN
      obtain ⟨i1, i2, i3, i4, i5⟩ := hN
      show ws_X2_number_28 _ post _ S5
      unfold ws_X2_number_28
      refine brf (fun q => absurd ((xc (a := 150) (b := n) (by omega) (by omega)).mp q) (by omega)) ?_
      rw [i1]
      refine br (fun c => h S5 heq (NI_V (by omega) (by have := (xc (a := 60) (b := cnt (ml X) n) (by omega) (by omega)).mp c; omega) hN0)) (fun c => ?_)
      have hc60 : cnt (ml X) n < 60 := by
        have : ¬ 60 ≤ cnt (ml X) n := fun q => c ((xc (a := 60) (b := cnt (ml X) n) (by omega) (by omega)).mpr q)
        omega
      have hnx : ∀ S6, eqL S S6 → NI S6 X (n + 1) → wp_X2_number_139 (wp_X2_number_28 post (k + 1)) post (nI n) S6 := fun S6 a1 a2 => by
        unfold wp_X2_number_139
        intro x1 e
        subst e
        rw [show nI n + (1 : Int32) = nI (n + 1) from nI_1 n]
        exact ih (n + 1) S6 (by omega) a1 a2
      refine s_makesLoan hX hb5 (by omega) (bi_br (fun hm => ?_) (fun hm => hnx S5 heq ?_))
      · have hk7 := hX.2.2.1 n (by omega)
        have ho := ok_of hk7 (by rw [hm.1]; decide)
        have hvp : vp_in (nI n) 150 := vp_in_nI (by omega) (by omega)
        rw [i1, n_cl (by omega)]
        refine ⟨hvp, fun S6 f6 => ?_⟩
        have g6 : gC_lmade S6 = nI (cnt (ml X) n) := by subst f6; exact i1
        rw [g6, n_cl (by omega)]
        refine ⟨vp_in_nI (by omega) (by omega), fun S7 f7 S8 f8 => ?_⟩
        have g7 : gC_lmade S7 = nI (cnt (ml X) n) := by subst f7; exact g6
        rw [g7, show nI (cnt (ml X) n) + (1 : Int32) = nI (cnt (ml X) n + 1) from nI_1 _] at f8
        have heq8 : eqL S S8 := by subst f8; subst f7; subst f6; exact heq
        have hb8 := eqL_b heq8 hb
        refine s_variableAt (by omega) ?_
        rw [((hb8.2.1.1 n (by omega)).2.1 (by rw [hm.1]; decide)).1, n_cl (by omega)]
        have hvo : vp_in (nI (x_of X n)) 16 := vp_in_nI (by omega) (by omega)
        refine ⟨hvo, hvp, hvo, fun S9 f9 => ?_⟩
        have gb8 : gC_bits S8 = vp_updL (gC_bits S5) n ((1 : Int64) <<< ((nI (cnt (ml X) n)).toInt64 &&& 63)) := by subst f8; subst f7; subst f6; rfl
        have gl8 : gC_loansOf S8 = gC_loansOf S5 := by subst f8; subst f7; subst f6; rfl
        rw [gb8, gl8, ul_s] at f9
        have heq9 : eqL S S9 := by subst f9; exact heq8
        have hb9 := eqL_b heq9 hb
        have gb9 : gC_bits S9 = vp_updL (gC_bits S5) n ((1 : Int64) <<< ((nI (cnt (ml X) n)).toInt64 &&& 63)) := by subst f9; exact gb8
        have gl9 : gC_loansOf S9 = vp_updL (gC_loansOf S5) (x_of X n) (gC_loansOf S5 (x_of X n) ||| ((1 : Int64) <<< ((nI (cnt (ml X) n)).toInt64 &&& 63))) := by subst f9; rfl
        have gm9 : gC_makers S9 = upd (gC_makers S5) (cnt (ml X) n) (nI n) := by subst f9; subst f8; subst f7; subst f6; rfl
        have gn9 : gC_lmade S9 = nI (cnt (ml X) n + 1) := by subst f9; subst f8; rfl
        have gs9 : gC_soleL S9 = gC_soleL S5 := by subst f9; subst f8; subst f7; subst f6; rfl
        have fin : ∀ (w : Int64), (∀ i, i < 64 → (lb w i = true ↔ (i = cnt (ml X) n ∧ x_so X (x_to X n) = 2))) → wp_X2_number_135 (fun x1 S => wp_X2_number_139 (wp_X2_number_28 post (k + 1)) post x1 S) post (nI n) w (gC_soleL S9) S9 := by
          intro w hw
          unfold wp_X2_number_135
          intro S10 f10
          have heq10 : eqL S S10 := by subst f10; exact heq9
          refine hnx S10 heq10 ⟨?_, fun p hp hmp => ?_, fun p hp hmp => ?_, fun v i hv hi => ?_, fun i hi => ?_⟩
          · rw [cnt_s_t hm]; subst f10; exact gn9
          · rw [show gC_bits S10 = gC_bits S9 by subst f10; rfl, show gC_makers S10 = gC_makers S9 by subst f10; rfl, gb9, gm9]
            by_cases e : p = n
            · subst e; rw [ul_s, u_s]; exact ⟨rfl, rfl⟩
            · have := cnt_lt_of (P := ml X) (a := p) (b := n) (by omega) hmp
              rw [ul_n e, u_n (by omega)]
              exact i2 p (by omega) hmp
          · rw [show gC_bits S10 = gC_bits S9 by subst f10; rfl, gb9]
            have e : p ≠ n := fun e => hmp ⟨by omega, by rw [e]; exact hm⟩
            rw [ul_n e]
            exact i3 p hp (fun q => hmp ⟨by omega, q.2⟩)
          · rw [show gC_loansOf S10 = gC_loansOf S9 by subst f10; rfl, gl9]
            by_cases e : v = x_of X n
            · subst e
              rw [ul_s, lb_or, lb_one (by omega), Bool.or_eq_true, decide_eq_true_iff, i4 _ i hv hi]
              constructor
              · rintro (⟨p, q1, q2, q3⟩ | q)
                · exact ⟨p, by omega, q2, q3⟩
                · exact ⟨n, by omega, hm, q, rfl⟩
              · rintro ⟨p, q1, q2, q3, q4⟩
                by_cases e : p = n
                · subst e; exact Or.inr q3
                · exact Or.inl ⟨p, by omega, q2, q3, q4⟩
            · rw [ul_n e, i4 v i hv hi]
              constructor
              · rintro ⟨p, q1, q2, q3⟩; exact ⟨p, by omega, q2, q3⟩
              · rintro ⟨p, q1, q2, q3, q4⟩
                have : p ≠ n := fun z => e (by rw [← q4, z])
                exact ⟨p, by omega, q2, q3, q4⟩
          · rw [show gC_soleL S10 = gC_soleL S9 ||| w by subst f10; rfl, gs9, lb_or, Bool.or_eq_true, hw i hi, i5 i hi]
            constructor
            · rintro (⟨p, q1, q2, q3⟩ | q)
              · exact ⟨p, by omega, q2, q3⟩
              · exact ⟨n, by omega, hm, q.1, q.2⟩
            · rintro ⟨p, q1, q2, q3, q4⟩
              by_cases e : p = n
              · subst e; exact Or.inr ⟨q3, q4⟩
              · exact Or.inl ⟨p, by omega, q2, q3, q4⟩
        refine s_makesSole hX hb9 (by omega) (bi_br (fun c2 => ⟨hvp, fin _ (fun i hi => ?_)⟩) (fun c2 => fin _ (fun i hi => ?_)))
        · rw [gb9, ul_s, lb_one (by omega), decide_eq_true_iff]
          exact ⟨fun q => ⟨q, c2.2⟩, fun q => q.1⟩
        · rw [lb_0]
          exact ⟨fun q => (by cases q), fun q => absurd ⟨hm, q.2⟩ c2⟩
      · have hlt : ∀ p, p < n + 1 → ml X p → p < n := fun p hp q => by
          by_cases e : p = n
          · subst e; exact absurd q hm
          · omega
        refine ⟨by rw [cnt_s_f hm]; exact i1, fun p hp q => i2 p (hlt p hp q) q, fun p hp q => i3 p hp (fun z => q ⟨by omega, z.2⟩), fun v i hv hi => ?_, fun i hi => ?_⟩
        · rw [i4 v i hv hi]
          exact ⟨fun ⟨p, q1, q2, q3⟩ => ⟨p, by omega, q2, q3⟩, fun ⟨p, q1, q2, q3⟩ => ⟨p, hlt p q1 q2, q2, q3⟩⟩
        · rw [i5 i hi]
          exact ⟨fun ⟨p, q1, q2, q3⟩ => ⟨p, by omega, q2, q3⟩, fun ⟨p, q1, q2, q3⟩ => ⟨p, hlt p q1 q2, q2, q3⟩⟩
  have heq4 : eqL S S4 := by subst e4; subst e3; subst e2; subst e1; exact ⟨rfl, rfl, rfl, rfl, rfl⟩
  refine ⟨_, key 150 0 S4 (by omega) heq4 ⟨by subst e4; rfl, fun p hp => by omega, fun p hp _ => ?_, fun v i hv hi => ?_, fun i hi => ?_⟩⟩
  · rw [show gC_bits S4 = fl_J 150 0 (gC_bits S) by subst e4; subst e3; subst e2; subst e1; rfl]
    exact fj_lt hp
  · rw [show gC_loansOf S4 = fl_J 16 0 (gC_loansOf S) by subst e4; subst e3; subst e2; subst e1; rfl, fj_lt (by omega), lb_0]
    exact ⟨fun q => (by cases q), fun ⟨p, q, _⟩ => by omega⟩
  · rw [show gC_soleL S4 = 0 by subst e4; subst e3; rfl, lb_0]
    exact ⟨fun q => (by cases q), fun ⟨p, q, _⟩ => by omega⟩

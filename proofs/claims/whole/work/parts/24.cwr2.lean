section CWR2
variable {S : CS} {X : XT}
theorem ok_of {X : XT} {p : Nat} (h : actOk X p) (h0 : x_ac X p ≠ 0) : x_of X p < x_nv X := okA_o (t := x_to X p) h h0
theorem ok_to {X : XT} {p : Nat} (h : actOk X p) (h0 : x_ac X p = 7 ∨ x_ac X p = 8) : x_to X p < x_nv X ∧ x_so X (x_to X p) ≠ 0 := okA_t (o := x_of X p) (w := x_pa X p) h h0
theorem ok_ac {X : XT} {p : Nat} (h : actOk X p) : x_ac X p ≤ 8 := okA_a (o := x_of X p) (w := x_pa X p) (t := x_to X p) h
theorem ok_pa {X : XT} {p : Nat} (h : actOk X p) (h0 : x_ac X p ≠ 0) : x_pa X p < 4096 := okA_w (t := x_to X p) h h0
theorem xv_lf {X : XT} {s k p f : Nat} (h : x_of X p < x_nv X) : lf (xvar X s k) p f ↔ lf X p f := by
  show (x_lv (xvar X s k) (x_of X p) = 1 ∨ _) ↔ _
  rw [xv_lv h]; exact Iff.rfl
theorem xv_gv {X : XT} {s k p v f : Nat} (h : actOk X p) (hv : v < x_nv X) : gv (xvar X s k) p v f ↔ gv X p v f := by
  by_cases h3 : x_ac X p = 3
  · have ho := ok_of h (by omega)
    show (_ ∨ (_ ∧ _ ∧ ¬ wi (xvar X s k) v (x_pa X p) ∧ lf (xvar X s k) p f)) ↔ _
    rw [xv_wi hv, xv_lf ho]; exact Iff.rfl
  · constructor
    · rintro (q | q)
      · exact Or.inl q
      · exact absurd q.1 h3
    · rintro (q | q)
      · exact Or.inl q
      · exact absurd q.1 h3
theorem xv_gvn {X : XT} {s k p f : Nat} (h : actOk X p) : ¬ gv (xvar X s k) p (x_nv X) f := by
  rintro (q | q)
  · have := (ok_to h q.1).1
    have e : x_to X p = x_nv X := q.2
    omega
  · have := ok_of h (by have : x_ac X p = 3 := q.1; omega)
    have e : x_of X p = x_nv X := q.2.1
    omega
theorem xv_tk {X : XT} {s k p v f : Nat} (h : actOk X p) (hv : v < x_nv X) : tk (xvar X s k) p v f ↔ tk X p v f := by
  by_cases h0 : x_ac X p = 0
  · constructor
    · intro q; have : x_ac X p = 2 ∧ _ ∨ x_ac X p = 5 ∨ x_ac X p = 8 ∧ _ := q.2; omega
    · intro q; have := q.2; omega
  · have ho := ok_of h h0
    show (x_of X p = v ∧ ((x_ac X p = 2 ∧ lf (xvar X s k) p f) ∨ x_ac X p = 5 ∨ (x_ac X p = 8 ∧ x_so (xvar X s k) v = 2))) ↔ _
    rw [xv_lf ho, xv_so hv]; exact Iff.rfl
theorem xv_tkn {X : XT} {s k p f : Nat} (h : actOk X p) : ¬ tk (xvar X s k) p (x_nv X) f := by
  intro q
  have h1 : x_of X p = x_nv X := q.1
  have h2 : x_ac X p = 2 ∧ _ ∨ x_ac X p = 5 ∨ x_ac X p = 8 ∧ _ := q.2
  have := ok_of h (by omega)
  omega
theorem xv_wn {X : XT} {s k p f : Nat} (h : x_of X p < x_nv X) : wn (xvar X s k) p f ↔ wn X p f := by
  show (x_ac X p = 8 ∨ (x_ac X p ≠ 0 ∧ x_ac X p ≠ 5 ∧ x_ac X p ≠ 6 ∧ x_ac X p ≠ 8 ∧ ¬ (x_ac X p = 3 ∧ ¬ wi (xvar X s k) (x_of X p) (x_pa X p)) ∧ lf (xvar X s k) p f)) ↔ _
  rw [xv_wi h, xv_lf h]; exact Iff.rfl
theorem xv_us {X : XT} {s k p : Nat} (h : actOk X p) : us (xvar X s k) p (x_of X p) ↔ us X p (x_of X p) := by
  by_cases h0 : x_ac X p = 0
  · constructor
    · rintro (q | q)
      · have : x_ac X p = 8 := q.1; omega
      · have : onp (x_ac X p) := q.1; unfold onp at this; omega
    · rintro (q | q)
      · have : x_ac X p = 8 := q.1; omega
      · have : onp (x_ac X p) := q.1; unfold onp at this; omega
  · have ho := ok_of h h0
    show (_ ∨ (_ ∧ _ ∧ x_so (xvar X s k) (x_of X p) ≠ 0 ∧ _)) ↔ _
    rw [xv_so ho]; exact Iff.rfl
theorem c_variable (hX : XI X) (hR : RC S X) {x1 x2 : Int32} {post : Int32 → CS → Prop} (h1 : ∀ s k, vVar X x1 x2 s k → ∀ S', RC S' (xvar X s k) → post (nI (x_nv X)) S') (h0 : (¬ ∃ s k, vVar X x1 x2 s k) → ∀ S', RC S' X → post (-1) S') : wp_X6_variable S x1 x2 post := by
  have hn := hX.1
  obtain ⟨hv, ha, hd, hnx⟩ := hR.1
  have hso : ∀ P : Int32 → CS → Prop, P (bi (∃ s k, x1 = nI s ∧ x2 = nI k ∧ s ≤ 2 ∧ 1 ≤ k ∧ k ≤ 4 ∧ (s ≠ 0 → k = 1))) S → wp_X6_isSort S x1 x2 P := by
    intro P hP
    have h30 : (∃ s, (s = 1 ∨ s = 2) ∧ x1 = nI s) → wp_X6_isSort_30 P x2 S := by
      rintro ⟨s, hs, e⟩
      unfold wp_X6_isSort_30
      refine brn (fun c => lf0 hP ?_) (fun c => lf1 hP ⟨s, 1, e, c, by omega, by omega, by omega, fun _ => rfl⟩)
      rintro ⟨s2, k, e1, e2, q1, q2, q3, q4⟩
      have := n_inj (by omega) (by omega) (e.symm.trans e1)
      have e3 := q4 (by omega)
      rw [e3] at e2; exact c e2
    unfold wp_X6_isSort
    refine brn (fun c => br (fun c1 => h30 ⟨1, Or.inl rfl, c1⟩) (fun c1 => brn (fun c2 => lf0 hP ?_) (fun c2 => h30 ⟨2, Or.inr rfl, c2⟩))) (fun c => br (fun c1 => lf0 hP ?_) (fun c1 => br (fun c2 => lf0 hP ?_) (fun c2 => lf1 hP ?_)))
    · rintro ⟨s, k, e1, e2, q⟩
      have : s = 0 ∨ s = 1 ∨ s = 2 := by omega
      rcases this with rfl | rfl | rfl
      · exact c e1
      · exact c1 e1
      · exact c2 e1
    · rintro ⟨s, k, e1, rfl, q⟩
      have := (xl (a := k) (b := 1) (by omega) (by omega)).mp c1
      omega
    · rintro ⟨s, k, e1, rfl, q⟩
      have := (xl (a := 4) (b := k) (by omega) (by omega)).mp c2
      omega
    · obtain ⟨k, hk, rfl⟩ := (inn_iff (x := x2) (n := 5) (by omega)).mpr ⟨fun q => c1 (Int32.lt_trans q (by decide)), fun q => c2 (by
        have : (4 : Int32) < 5 := by decide
        exact Int32.lt_of_lt_of_le this q)⟩
      have hk1 : ¬ k < 1 := fun q => c1 ((xl (a := k) (b := 1) (by omega) (by omega)).mpr q)
      exact ⟨0, k, c, rfl, by omega, by omega, by omega, fun q => absurd rfl q⟩
  unfold wp_X6_variable
  refine hso _ (bi_br (fun c => ?_) (fun c => h0 ?_ S hR))
  · obtain ⟨s, k, e1, e2, q⟩ := c
    unfold wp_X4_isFull
    rw [hv.1]
    refine br (fun c2 => brt rfl ?_) (fun c2 => brf (by decide) (h0 ?_ S hR))
    · have hlt := (xl (a := x_nv X) (b := 16) (by omega) (by omega)).mp c2
      refine s_forget (fun S1 hf hS1 => ?_)
      have hb1 := hS1 X ⟨hv, ha, hd, hnx⟩
      unfold wp_X4_add
      rw [hb1.1.1]
      refine ⟨vp_in_nI (by omega) (by omega), fun S2 e2' => ?_⟩
      have g2 : gC_vmade S2 = nI (x_nv X) := by subst e2'; exact hb1.1.1
      rw [g2]
      refine ⟨vp_in_nI (by omega) (by omega), fun S3 e3 S4 e4 => ?_⟩
      rw [n_cl (by omega)] at e2' e3
      have g3 : gC_vmade S3 = nI (x_nv X) := by subst e3; exact g2
      have g4 : gC_vmade S4 = nI (x_nv X + 1) := by
        subst e4
        show gC_vmade S3 + 1 = _
        rw [g3]; exact nI_1 _
      rw [g4, show nI (x_nv X + 1) - (1 : Int32) = nI (x_nv X) from nI_pred _]
      have gs : gC_sorts S4 = upd (gC_sorts S1) (x_nv X) x1 := by subst e4; subst e3; subst e2'; rfl
      have gl : gC_lcs S4 = upd (gC_lcs S1) (x_nv X) x2 := by subst e4; subst e3; subst e2'; rfl
      have gb : gC_begun S4 = gC_begun S1 := by subst e4; subst e3; subst e2'; rfl
      have hf4 : fgt S4 := by subst e4; subst e3; subst e2'; exact hf
      have ha4 : RCa S4 X := by subst e4; subst e3; subst e2'; exact hb1.2.1
      have hd4 : RCd S4 X := by subst e4; subst e3; subst e2'; exact hb1.2.2.1
      have hn4 : RCn S4 X := by subst e4; subst e3; subst e2'; exact hb1.2.2.2
      refine h1 s k ⟨e1, e2, q.1, q.2.1, q.2.2.1, q.2.2.2, hlt⟩ S4 (RC_of ⟨⟨g4, fun v hv2 => ?_, fun v f hv2 hf2 => ?_, fun i hi => ?_⟩, ha4, fun p hp => ?_, hn4⟩ hf4)
      · rw [gs, gl]
        by_cases he : v = x_nv X
        · subst he
          rw [u_s, u_s, show x_so (xvar X s k) (x_nv X) = s from un_s, show x_lv (xvar X s k) (x_nv X) = k from un_s]
          exact ⟨e1, e2⟩
        · have hv3 : v < x_nv X := by have : v < x_nv X + 1 := hv2; omega
          rw [u_n he, u_n he, xv_so hv3, xv_lv hv3]
          exact hb1.1.2.1 v hv3
      · rw [gb]
        by_cases he : v = x_nv X
        · subst he
          rw [show x_af (xvar X s k) (x_nv X) = false from un_s]
          exact hb1.1.2.2.2 _ (by omega)
        · have hv3 : v < x_nv X := by have : v < x_nv X + 1 := hv2; omega
          rw [xv_af hv3]
          rw [xv_lv hv3] at hf2
          exact hb1.1.2.2.1 v f hv3 hf2
      · rw [gb]
        exact hb1.1.2.2.2 i (by have : 4 * (x_nv X + 1) ≤ i := hi; omega)
      · have hk := hX.2.2.1 p hp
        obtain ⟨d1, d2, d3, d4, d5, d6, d7, d8⟩ := hd4 p hp
        refine ⟨fun i hi => ?_, fun v f hv2 hf2 => ?_, fun i hi => d3 i (by have : 4 * (x_nv X + 1) ≤ i := hi; omega), fun u => d4 ((xv_us hk).mp u), fun u => d5 (fun q => u ((xv_us hk).mpr q)), d6, fun u => d7 ⟨u.1, ?_⟩, fun u => d8 ⟨u.1, fun q => u.2 ⟨q.1, ?_⟩⟩⟩
        · rw [d1 i hi]
          constructor
          · rintro ⟨f, q1, q2, q3, q4⟩
            have ho := ok_of hk q3
            exact ⟨f, q1, (by show f < x_lv (xvar X s k) (x_of X p); rw [xv_lv ho]; exact q2), q3, (xv_wn ho).mpr q4⟩
          · rintro ⟨f, q1, q2, q3, q4⟩
            have ho := ok_of hk q3
            have q2 : f < x_lv (xvar X s k) (x_of X p) := q2
            rw [xv_lv ho] at q2
            exact ⟨f, q1, q2, q3, (xv_wn ho).mp q4⟩
        · by_cases he : v = x_nv X
          · subst he
            have := d3 (4 * x_nv X + f) (by omega)
            rw [this.1, this.2]
            exact ⟨⟨fun e => (by cases e), fun e => absurd e (xv_gvn hk)⟩, ⟨fun e => (by cases e), fun e => absurd e (xv_tkn hk)⟩⟩
          · have hv3 : v < x_nv X := by have : v < x_nv X + 1 := hv2; omega
            rw [xv_lv hv3] at hf2
            rw [xv_gv hk hv3, xv_tk hk hv3]
            exact d2 v f hv3 hf2
        · have h5 : x_ac X p = 5 := u.1
          have := u.2
          rw [show x_so (xvar X s k) (x_of (xvar X s k) p) = x_so X (x_of X p) from xv_so (ok_of hk (by omega))] at this
          exact this
        · have h5 : x_ac X p = 5 := q.1
          rw [show x_so (xvar X s k) (x_of (xvar X s k) p) = x_so X (x_of X p) from xv_so (ok_of hk (by omega))]
          exact q.2
    · rintro ⟨s2, k2, q2⟩
      exact c2 ((xl (a := x_nv X) (b := 16) (by omega) (by omega)).mpr q2.2.2.2.2.2.2)
  · rintro ⟨s2, k2, q2⟩
    exact c ⟨s2, k2, q2.1, q2.2.1, q2.2.2.1, q2.2.2.2.1, q2.2.2.2.2.1, q2.2.2.2.2.2.1⟩
theorem c_begins (hX : XI X) (hR : RC S X) {x1 x2 : Int32} {post : Int32 → CS → Prop} (h1 : ∀ v, v < x_nv X → x1 = nI v → ∀ S', RC S' (xbeg X v (decide (¬ x2 = 0))) → post 1 S') (h0 : ¬ inn x1 (x_nv X) → ∀ S', RC S' X → post (-1) S') : wp_X6_begins S x1 x2 post := by
  have hn := hX.1
  obtain ⟨hv, ha, hd, hnx⟩ := hR.1
  unfold wp_X6_begins
  refine s_has hX hv (bi_brn (fun c => ?_) (fun c => h0 c S hR))
  obtain ⟨v, hv1, rfl⟩ := c
  have hl4 : ∀ v, v < x_nv X → 1 ≤ x_lv X v ∧ x_lv X v ≤ 4 := fun v hv => ⟨(hX.2.1 v hv).2.1, (hX.2.1 v hv).2.2.1⟩
  unfold wp_X4_begin
  refine s_leavesOf (w := 0) hX hv hv1 (by omega) (fun _ q => absurd rfl q) (fun r hr => ?_)
  have hout := LV_out hX hv1 hr
  have hbit : ∀ u f, u < x_nv X → f < x_lv X u → (lb r (4 * u + f) = true ↔ u = v) := fun u f hu hf => by
    have h4 := hl4 u hu
    have h5 := hl4 v hv1
    rw [hr (4 * u + f) (by omega)]
    constructor
    · rintro ⟨f2, e, q, _⟩; omega
    · rintro rfl; exact ⟨f, rfl, hf, Or.inr (Or.inl rfl)⟩
  have fin : ∀ (b : Int64), (∀ u f, u < x_nv X → f < x_lv X u → lb b (4 * u + f) = x_af (xbeg X v (decide (¬ x2 = 0))) u) → (∀ i, 4 * x_nv X ≤ i → lb b i = false) → ∀ S1, S1 = sC_begun S b → wp_X6_forget S1 (fun S2 => post 1 S2) := by
    intro b hb1 hb2 S1 e
    subst e
    refine s_forget (fun S2 hf hS2 => h1 v hv1 rfl S2 (RC_of (hS2 _ ⟨⟨hv.1, hv.2.1, hb1, hb2⟩, ha, hd, hnx⟩) hf))
  refine br (fun c => ?_) (fun c => ?_)
  · intro S1 e1
    refine fin _ (fun u f hu hf => ?_) (fun i hi => ?_) S1 e1
    · rw [lb_and, lb_not _ (by have := hl4 u hu; omega), hv.2.2.1 u f hu hf]
      have hb := hbit u f hu hf
      by_cases he : u = v
      · subst he
        rw [hb.mpr rfl, show x_af (xbeg X u (decide (¬ x2 = 0))) u = decide (¬ x2 = 0) from un_s, c]
        simp
      · rw [show x_af (xbeg X v (decide (¬ x2 = 0))) u = x_af X u from un_n he]
        have : lb r (4 * u + f) = false := by
          cases e : lb r (4 * u + f)
          · rfl
          · exact absurd (hb.mp e) he
        rw [this]; simp
    · rw [lb_and, hv.2.2.2 i hi]; rfl
  · intro S1 e1
    refine fin _ (fun u f hu hf => ?_) (fun i hi => ?_) S1 e1
    · rw [lb_or, hv.2.2.1 u f hu hf]
      have hb := hbit u f hu hf
      by_cases he : u = v
      · subst he
        rw [hb.mpr rfl, show x_af (xbeg X u (decide (¬ x2 = 0))) u = decide (¬ x2 = 0) from un_s]
        simp [c]
      · rw [show x_af (xbeg X v (decide (¬ x2 = 0))) u = x_af X u from un_n he]
        have : lb r (4 * u + f) = false := by
          cases e : lb r (4 * u + f)
          · rfl
          · exact absurd (hb.mp e) he
        rw [this]; simp
    · rw [lb_or, hv.2.2.2 i hi, hout i hi]; rfl
end CWR2

section MCT
variable {M : MS} {X : XT}
theorem m_count (hX : XI X) (hM : RM M X) {x1 : Int32} {post : Int32 → MS → Prop} (h : ∀ M', RM M' X → post (can X x1) M') : wp_X7_count M x1 post := by
  unfold wp_X7_count
  refine m_in0 (n := 5) (by omega) (bi_brn (fun c => ?_) (fun c => ?_))
  · obtain ⟨a, ha, rfl⟩ := c
    refine m_workOut hX hM (fun M' hM' ho => ?_)
    have hh := h M' hM'
    clear h
    obtain ⟨v1, v2, v3, v4, v5, v6, v7, v8, v9⟩ := hM'.2 ho
    have hrow : ∀ l, l < 150 → (gM_rowOf M' l = -1 ↔ ¬ ml X l) := fun l hl => by
      by_cases hm : ml X l
      · have h60 := Nat.lt_of_lt_of_le (cnt_lt_of (P := ml X) (a := l) (b := 150) hl hm) (ml_60 hX)
        rw [((v4 l hl).2 hm).1]
        exact ⟨fun z => absurd z (n_m1 (by omega)), fun z => absurd hm z⟩
      · rw [(v4 l hl).1 hm]
        exact ⟨fun _ => hm, fun _ => rfl⟩
    obtain ⟨g, hg⟩ : ∃ g : Nat → Nat, g = fun p => cnt (fun l => ml X l ∧ frc X l p) 150 := ⟨_, rfl⟩
    have hprs : prs X = sm g 150 := by rw [hg]; rfl
    have key : ∀ (k i : Nat), i + k = 150 → wp_X7_count_25 post (k + 1) (nI a) (nI (cnt (ml X) i)) (nI (cnt (rch X) i)) (nI (sm g i)) (nI i) M' := by
      intro k
      induction k with
      | zero =>
        intro i hi
        have e : i = 150 := by omega
        subst e
        show ws_X7_count_25 _ post _ _ _ _ _ M'
        unfold ws_X7_count_25
        rw [v8, v9, hM'.1.1.1, ← hprs]
        unfold can at hh
        refine brt (by decide) (brn (fun c0 => brn (fun c1 => brn (fun c2 => brn (fun c3 => brn (fun c4 => ?_) (fun c4 => ?_)) (fun c3 => ?_)) (fun c2 => ?_)) (fun c1 => ?_)) (fun c0 => ?_))
        · have e5 : nI a = 5 := by
            have n0 : a ≠ 0 := fun e => c0 (by rw [e]; rfl)
            have n1 : a ≠ 1 := fun e => c1 (by rw [e]; rfl)
            have n2 : a ≠ 2 := fun e => c2 (by rw [e]; rfl)
            have n3 : a ≠ 3 := fun e => c3 (by rw [e]; rfl)
            have n4 : a ≠ 4 := fun e => c4 (by rw [e]; rfl)
            have : a = 5 := by omega
            rw [this]; rfl
          rw [if_neg c0, if_neg c1, if_neg c2, if_neg c3, if_neg c4, if_pos e5] at hh; exact hh
        · rw [if_neg c0, if_neg c1, if_neg c2, if_neg c3, if_pos c4] at hh; exact hh
        · rw [if_neg c0, if_neg c1, if_neg c2, if_pos c3] at hh; exact hh
        · rw [if_neg c0, if_neg c1, if_pos c2] at hh; exact hh
        · rw [if_neg c0, if_pos c1] at hh; exact hh
        · rw [if_pos c0] at hh; exact hh
      | succ k ih =>
        intro i hi
        have hi1 : i < 150 := by omega
        have ih := ih (i + 1) (by omega)
        have hvi : vp_in (nI i) 150 := vp_in_nI (by omega) (by omega)
        have esm : sm g (i + 1) = sm g i + g i := rfl
        have h135 : ∀ x, x = nI (sm g (i + 1)) → wp_X7_count_135 (wp_X7_count_25 post (k + 1)) post (nI a) (nI (cnt (ml X) (i + 1))) (nI (cnt (rch X) (i + 1))) x (nI i) M' := fun x ex => by
          subst ex
          unfold wp_X7_count_135
          intro y ey
          subst ey
          rw [show nI i + (1 : Int32) = nI (i + 1) from nI_1 i]
          exact ih
        have h73 : ∃ n_, wp_X7_count_73 (wp_X7_count_25 post (k + 1)) post n_ (nI a) (nI (cnt (ml X) (i + 1))) (nI (cnt (rch X) (i + 1))) (nI (sm g i)) (nI i) 0 M' := by
          have key2 : ∀ (k2 l : Nat), l + k2 = 150 → wp_X7_count_73 (wp_X7_count_25 post (k + 1)) post (k2 + 1) (nI a) (nI (cnt (ml X) (i + 1))) (nI (cnt (rch X) (i + 1))) (nI (sm g i + cnt (fun l => ml X l ∧ frc X l i) l)) (nI i) (nI l) M' := by
            intro k2
            induction k2 with
            | zero =>
              intro l hl
              have e : l = 150 := by omega
              subst e
              show ws_X7_count_73 _ _ post _ _ _ _ _ _ M'
              unfold ws_X7_count_73
              exact brt (by decide) (h135 _ (by rw [esm, hg]))
            | succ k2 ih2 =>
              intro l hl
              have hl1 : l < 150 := by omega
              have ih2 := ih2 (l + 1) (by omega)
              show ws_X7_count_73 _ _ post _ _ _ _ _ _ M'
              unfold ws_X7_count_73
              have y0 : ¬ (ml X l ∧ frc X l i) → wp_X7_count_125 (fun x1 x2 x3 x5 x6 k0 k1 S => wp_X7_count_126 (wp_X7_count_73 (wp_X7_count_25 post (k + 1)) post (k2 + 1)) post x1 x2 x3 x5 x6 k0 k1 S) post (nI a) (nI (cnt (ml X) (i + 1))) (nI (cnt (rch X) (i + 1))) (nI i) (nI l) (nI (sm g i + cnt (fun l => ml X l ∧ frc X l i) l)) M' := fun z => by
                unfold wp_X7_count_125
                show wp_X7_count_126 _ post _ _ _ _ _ _ _ M'
                unfold wp_X7_count_126
                intro x4 e4 x6 e6
                subst e4; subst e6
                rw [cnt_s_f (P := fun l => ml X l ∧ frc X l i) z] at ih2
                rw [show nI l + (1 : Int32) = nI (l + 1) from nI_1 l, Int32.add_zero]
                exact ih2
              have hcr : gM_come M' i = bi (rch X i) := v1 i hi1
              rw [n_150, n_cl (j := i) (by omega), n_cl (j := l) (by omega), n_cl (j := 150 * l + i) (by omega), hcr]
              refine brf (fun q => absurd ((xc (a := 150) (b := l) (by omega) (by omega)).mp q) (by omega)) ⟨hvi, bi_br (fun cr => ⟨vp_in_nI (by omega) (by omega), br (fun c => y0 (fun z => (hrow l hl1).mp c z.1)) (fun c => ⟨vp_in_nI (by omega) (by omega), ?_⟩)⟩) (fun cr => h135 _ ?_)⟩
              · have hm : ml X l := Classical.byContradiction (fun z => c ((hrow l hl1).mpr z))
                rw [v5 l i hl1 hi1 hm cr]
                refine bi_br (fun cf => ?_) (fun cf => y0 (fun z => cf z.2))
                unfold wp_X7_count_126
                intro x4 e4 x6 e6
                subst e4; subst e6
                rw [cnt_s_t (P := fun l => ml X l ∧ frc X l i) ⟨hm, cf⟩] at ih2
                rw [show nI l + (1 : Int32) = nI (l + 1) from nI_1 l, show nI (sm g i + cnt (fun l => ml X l ∧ frc X l i) l) + (1 : Int32) = _ from nI_1 _]
                exact ih2
              · have z0 : ∀ m, cnt (fun l => ml X l ∧ frc X l i) m = 0 := fun m => by
                  rw [cnt_congr (P := fun l => ml X l ∧ frc X l i) (Q := fun _ => False) (fun k _ => ⟨fun z => cr z.2.1, fun z => z.elim⟩), cnt_F]
                rw [esm, hg]
                show nI (_ + cnt (fun l => ml X l ∧ frc X l i) l) = nI (_ + cnt (fun l => ml X l ∧ frc X l i) 150)
                rw [z0, z0]
          exact ⟨_, key2 150 0 (by omega)⟩
        have h68 : ∀ x, nI (cnt (ml X) i) + x = nI (cnt (ml X) (i + 1)) → wp_X7_count_68 (wp_X7_count_25 post (k + 1)) post (nI a) (nI (cnt (rch X) (i + 1))) (nI (sm g i)) (nI i) x (nI (cnt (ml X) i)) M' := fun x ex => by
          unfold wp_X7_count_68
          intro y ey
          rw [ex] at ey
          subst ey
          exact h73
        have h49 : ∀ x, nI (cnt (rch X) i) + x = nI (cnt (rch X) (i + 1)) → wp_X7_count_49 (wp_X7_count_25 post (k + 1)) post (nI a) (nI (cnt (ml X) i)) (nI (sm g i)) (nI i) x (nI (cnt (rch X) i)) M' := fun x ex => by
          unfold wp_X7_count_49
          intro y ey
          rw [ex] at ey
          subst ey
          rw [n_cl (by omega)]
          refine ⟨hvi, br (fun c => h68 0 ?_) (fun c => h68 1 ?_)⟩
          · rw [cnt_s_f ((hrow i hi1).mp c)]; exact Int32.add_zero _
          · rw [cnt_s_t (Classical.byContradiction (fun z => c ((hrow i hi1).mpr z)))]; exact nI_1 _
        show ws_X7_count_25 _ post _ _ _ _ _ M'
        unfold ws_X7_count_25
        rw [n_cl (by omega), v1 i hi1]
        refine brf (fun q => absurd ((xc (a := 150) (b := i) (by omega) (by omega)).mp q) (by omega)) ⟨hvi, bi_br (fun c => h49 1 ?_) (fun c => h49 0 ?_)⟩
        · rw [cnt_s_t c]; exact nI_1 _
        · rw [cnt_s_f c]; exact Int32.add_zero _
    exact ⟨_, key 150 0 (by omega)⟩
  · have hh := h M hM
    unfold can at hh
    have n0 : ¬ x1 = 0 := fun e => c ⟨0, by omega, e⟩
    have n1 : ¬ x1 = 1 := fun e => c ⟨1, by omega, e⟩
    have n2 : ¬ x1 = 2 := fun e => c ⟨2, by omega, e⟩
    have n3 : ¬ x1 = 3 := fun e => c ⟨3, by omega, e⟩
    have n4 : ¬ x1 = 4 := fun e => c ⟨4, by omega, e⟩
    have n5 : ¬ x1 = 5 := fun e => c ⟨5, by omega, e⟩
    rw [if_neg n0, if_neg n1, if_neg n2, if_neg n3, if_neg n4, if_neg n5] at hh
    exact hh
end MCT

section CNX
variable {S : CS} {X : XT}
theorem n_4p {p i : Nat} : nI p * (4 : Int32) + nI i = nI (4 * p + i) := by
  rw [show nI p * (4 : Int32) = nI (p * 4) from pk_mul p 4, nI_add, Nat.mul_comm]
theorem s_nextOf {p i : Nat} (hp : p < 150) (hi : i < 4) {post : Int32 → CS → Prop} (h : post (gC_nexts S (4 * p + i)) S) : wp_X5_nextOf S (nI p) (nI i) post := by
  unfold wp_X5_nextOf
  rw [n_4p, n_cl (by omega)]
  exact ⟨vp_in_nI (by omega) (by omega), h⟩
theorem s_indexOf (hX : XI X) (hn : RCn S X) {p q : Nat} (hp : p < 150) (hq : q < 150) {post : Int32 → CS → Prop} (h1 : ∀ i, i < x_cn X p → gC_nexts S (4 * p + i) = nI q → x_ed X p q = true → post (nI i) S) (h0 : x_ed X p q = false → post (-1) S) : wp_X5_indexOf S (nI p) (nI q) post := by
  have hc := hX.2.2.2.2.1 p hp
  obtain ⟨n1, n2, n3, n4⟩ := hn p hp
  have key : ∀ (k i : Nat), i + k = x_cn X p → (∀ j, j < i → gC_nexts S (4 * p + j) ≠ nI q) → wp_X5_indexOf_2 post (k + 1) (nI p) (nI q) (nI i) S := by
    intro k
    induction k with
    | zero =>
      intro i hi hno
      show ws_X5_indexOf_2 _ post _ _ _ S
      unfold ws_X5_indexOf_2
      refine ⟨vp_in_nI (by omega) (by omega), ?_⟩
      rw [n_cl (by omega), n1]
      refine brt ((xc (by omega) (by omega)).mpr (by omega)) (h0 ?_)
      cases e : x_ed X p q
      · rfl
      · obtain ⟨j, hj, e2⟩ := n3 q e
        exact absurd e2 (hno j (by omega))
    | succ k ih =>
      intro i hi hno
      show ws_X5_indexOf_2 _ post _ _ _ S
      unfold ws_X5_indexOf_2
      refine ⟨vp_in_nI (by omega) (by omega), ?_⟩
      rw [n_cl (by omega), n1]
      refine brf (fun q => absurd ((xc (by omega) (by omega)).mp q) (by omega)) (s_nextOf hp (by omega) (brn (fun c => ?_) (fun c => ?_)))
      · intro x3 e3
        subst e3
        rw [show nI i + (1 : Int32) = nI (i + 1) from nI_1 i]
        refine ih (i + 1) (by omega) (fun j hj => ?_)
        by_cases e : j = i
        · subst e; exact c
        · exact hno j (by omega)
      · obtain ⟨q2, h2, h3, h4⟩ := n2 i (by omega)
        have e := n_inj (by omega) (by omega) (c.symm.trans h3)
        subst e
        exact h1 i (by omega) c h4
  exact ⟨_, key (x_cn X p) 0 (by omega) (fun j hj => by omega)⟩
theorem xnx_ed {X : XT} {p q a b c : Nat} {t : Bool} : x_ed (xnx X p q t c) a b = if a = p ∧ b = q then t else x_ed X a b := by
  show un_ (x_ed X) p (un_ (x_ed X p) q t) a b = _
  by_cases h : a = p
  · subst h
    rw [un_s]
    by_cases h2 : b = q
    · subst h2; rw [un_s, if_pos ⟨rfl, rfl⟩]
    · rw [un_n h2, if_neg (fun e => h2 e.2)]
  · rw [un_n h, if_neg (fun e => h e.1)]
theorem xnx_id {X : XT} {p q : Nat} {t : Bool} (h : x_ed X p q = t) : xnx X p q t (x_cn X p) = X := by
  have e1 : un_ (x_ed X) p (un_ (x_ed X p) q t) = x_ed X := by
    funext a b
    have := xnx_ed (X := X) (p := p) (q := q) (a := a) (b := b) (c := 0) (t := t)
    by_cases hh : a = p ∧ b = q
    · rw [if_pos hh] at this
      obtain ⟨rfl, rfl⟩ := hh
      exact this.trans h.symm
    · rw [if_neg hh] at this; exact this
  have e2 : un_ (x_cn X) p (x_cn X p) = x_cn X := by
    funext a
    by_cases hh : a = p
    · subst hh; exact un_s
    · exact un_n hh
  unfold xnx
  rw [e1, e2]
  rfl
theorem ncn_t {X : XT} {p q : Nat} (h : x_ed X p q = true) : ncn X p q true = x_cn X p := by unfold ncn; rw [if_pos rfl, if_pos h]
theorem ncn_t0 {X : XT} {p q : Nat} (h : x_ed X p q = false) : ncn X p q true = x_cn X p + 1 := by unfold ncn; rw [if_pos rfl, if_neg (by rw [h]; decide)]
theorem ncn_f {X : XT} {p q : Nat} (h : x_ed X p q = true) : ncn X p q false = x_cn X p - 1 := by unfold ncn; rw [if_neg (by decide), if_pos h]
theorem ncn_f0 {X : XT} {p q : Nat} (h : x_ed X p q = false) : ncn X p q false = x_cn X p := by unfold ncn; rw [if_neg (by decide), if_neg (by rw [h]; decide)]
theorem xnx_XI {X : XT} (hX : XI X) {p q : Nat} {t : Bool} (hp : p < 150) (hq : q < 150) (hc : ¬ (t = true ∧ x_ed X p q = false ∧ 4 ≤ x_cn X p)) : XI (xnx X p q t (ncn X p q t)) := by
  refine ⟨hX.1, hX.2.1, hX.2.2.1, fun a b h => ?_, fun a ha => ?_, hX.2.2.2.2.2⟩
  · rw [xnx_ed] at h
    by_cases hh : a = p ∧ b = q
    · omega
    · rw [if_neg hh] at h; exact hX.2.2.2.1 a b h
  · show un_ (x_cn X) p (ncn X p q t) a ≤ 4
    have := hX.2.2.2.2.1 a ha
    by_cases hh : a = p
    · subst hh
      rw [un_s]
      unfold ncn
      cases t <;> cases e : x_ed X a q <;> simp [e] at hc ⊢ <;> omega
    · rw [un_n hh]; exact this
theorem c_next (hX : XI X) (hR : RC S X) {x1 x2 x3 : Int32} {post : Int32 → CS → Prop} (h1 : ∀ p q, p < 150 → q < 150 → x1 = nI p → x2 = nI q → ¬ (¬ x3 = 0 ∧ x_ed X p q = false ∧ 4 ≤ x_cn X p) → ∀ S', RC S' (xnx X p q (decide (¬ x3 = 0)) (ncn X p q (decide (¬ x3 = 0)))) → post 1 S') (h0 : (¬ ∃ p q, p < 150 ∧ q < 150 ∧ x1 = nI p ∧ x2 = nI q ∧ ¬ (¬ x3 = 0 ∧ x_ed X p q = false ∧ 4 ≤ x_cn X p)) → ∀ S', RC S' X → post (-1) S') : wp_X6_next S x1 x2 x3 post := by
  obtain ⟨hv, ha, hd, hn⟩ := hR.1
  unfold wp_X6_next
  refine s_isPoint (bi_br (fun c => ?_) (fun c => h0 ?_ S hR))
  · obtain ⟨p, hp, rfl⟩ := c
    refine s_isPoint (bi_brn (fun c => ?_) (fun c => h0 ?_ S hR))
    · obtain ⟨q, hq, rfl⟩ := c
      have hc4 := hX.2.2.2.2.1 p hp
      obtain ⟨n1, n2, n3, n4⟩ := hn p hp
      refine br (fun c => ?_) (fun c => ?_)
      · have hdec : decide (¬ x3 = 0) = false := by simp [c]
        have h1 := h1 p q hp hq rfl rfl (fun k => k.1 c)
        rw [hdec] at h1
        unfold wp_X6_next_34
        refine brnf c ?_
        unfold wp_X5_remove
        refine s_indexOf hX hn hp hq (fun i hi hiq he => ?_) (fun he => ?_)
        · refine brf (n_m1 (by omega)) ⟨vp_in_nI (by omega) (by omega), vp_in_nI (by omega) (by omega), fun S1 e1 => ?_⟩
          rw [n_cl (by omega), n1, show nI (x_cn X p) - (1 : Int32) = nI (x_cn X p - 1) from pk_sub (b := 1) (by omega)] at e1
          have g1 : gC_ncnt S1 = upd (gC_ncnt S) p (nI (x_cn X p - 1)) := by subst e1; rfl
          have g1n : gC_nexts S1 = gC_nexts S := by subst e1; rfl
          rw [n_cl (by omega), g1, u_s, n_4p, n_4p, n_cl (by omega), n_cl (by omega), g1n]
          refine ⟨vp_in_nI (by omega) (by omega), vp_in_nI (by omega) (by omega), vp_in_nI (by omega) (by omega), fun S2 e2 => ?_⟩
          refine s_forget (fun S3 hf hS3 => h1 S3 (RC_of (hS3 _ ?_) hf))
          have g2 : gC_ncnt S2 = upd (gC_ncnt S) p (nI (x_cn X p - 1)) := by subst e2; exact g1
          have g2n : gC_nexts S2 = upd (gC_nexts S) (4 * p + i) (gC_nexts S (4 * p + (x_cn X p - 1))) := by subst e2; rfl
          have hv2 : RCv S2 (xnx X p q false (ncn X p q false)) := by subst e2; subst e1; exact hv
          have ha2 : RCa S2 (xnx X p q false (ncn X p q false)) := by subst e2; subst e1; exact ha
          have hd2 : RCd S2 (xnx X p q false (ncn X p q false)) := by subst e2; subst e1; exact hd
          refine ⟨hv2, ha2, hd2, fun a ha => ?_⟩
          rw [ncn_f he]
          have e4 : x_cn (xnx X p q false (x_cn X p - 1)) a = un_ (x_cn X) p (x_cn X p - 1) a := rfl
          rw [e4, g2, g2n]
          by_cases hap : a = p
          · subst hap
            rw [un_s, u_s]
            refine ⟨rfl, fun j hj => ?_, fun b hb => ?_, fun j1 j2 hj1 hj2 e => ?_⟩
            · by_cases hji : j = i
              · subst hji
                rw [u_s]
                obtain ⟨b, hb1, hb2, hb3⟩ := n2 (x_cn X a - 1) (by omega)
                refine ⟨b, hb1, hb2, ?_⟩
                rw [xnx_ed, if_neg]
                · exact hb3
                · rintro ⟨_, rfl⟩
                  have := n4 j (x_cn X a - 1) (by omega) (by omega) (hiq.trans hb2.symm)
                  omega
              · rw [u_n (by omega)]
                obtain ⟨b, hb1, hb2, hb3⟩ := n2 j (by omega)
                refine ⟨b, hb1, hb2, ?_⟩
                rw [xnx_ed, if_neg]
                · exact hb3
                · rintro ⟨_, rfl⟩
                  exact hji (n4 j i (by omega) hi (hb2.trans hiq.symm))
            · rw [xnx_ed] at hb
              by_cases hbq : b = q
              · rw [if_pos ⟨rfl, hbq⟩] at hb; cases hb
              · rw [if_neg (fun k => hbq k.2)] at hb
                obtain ⟨j, hj, e⟩ := n3 b hb
                by_cases hjl : j = x_cn X a - 1
                · have hji : j ≠ i := fun k => by
                    subst k
                    exact hbq (n_inj (by have := (hX.2.2.2.1 a b hb).2; omega) (by omega) (e.symm.trans hiq))
                  refine ⟨i, by omega, ?_⟩
                  rw [u_s, ← hjl]; exact e
                · by_cases hji : j = i
                  · subst hji
                    exact absurd (n_inj (by have := (hX.2.2.2.1 a b hb).2; omega) (by omega) (e.symm.trans hiq)) hbq
                  · refine ⟨j, by omega, ?_⟩
                    rw [u_n (by omega)]; exact e
            · by_cases h1i : j1 = i
              · subst h1i
                rw [u_s] at e
                by_cases h2i : j2 = j1
                · exact h2i.symm
                · rw [u_n (by omega)] at e
                  have := n4 _ _ (by omega) (by omega) e
                  omega
              · rw [u_n (by omega)] at e
                by_cases h2i : j2 = i
                · subst h2i
                  rw [u_s] at e
                  have := n4 _ _ (by omega) (by omega) e
                  omega
                · rw [u_n (by omega)] at e
                  exact n4 _ _ (by omega) (by omega) e
          · rw [un_n hap, u_n hap]
            have hca := hX.2.2.2.2.1 a ha
            obtain ⟨m1, m2, m3, m4⟩ := hn a ha
            refine ⟨m1, fun j hj => ?_, fun b hb => ?_, fun j1 j2 hj1 hj2 e => ?_⟩
            · rw [u_n (by omega)]
              obtain ⟨b, hb1, hb2, hb3⟩ := m2 j hj
              exact ⟨b, hb1, hb2, by rw [xnx_ed, if_neg (fun k => hap k.1)]; exact hb3⟩
            · rw [xnx_ed, if_neg (fun k => hap k.1)] at hb
              obtain ⟨j, hj, e⟩ := m3 b hb
              exact ⟨j, hj, by rw [u_n (by omega)]; exact e⟩
            · rw [u_n (by omega), u_n (by omega)] at e
              exact m4 _ _ hj1 hj2 e
        · refine brt rfl (s_forget (fun S3 hf hS3 => h1 S3 (RC_of (hS3 _ ?_) hf)))
          rw [ncn_f0 he, xnx_id he]
          exact ⟨hv, ha, hd, hn⟩
      · have hdec : decide (¬ x3 = 0) = true := by simp [c]
        have h1 := h1 p q hp hq rfl rfl
        rw [hdec] at h1
        have fin : ∀ S1, RCb S1 (xnx X p q true (ncn X p q true)) → ¬ (¬ x3 = 0 ∧ x_ed X p q = false ∧ 4 ≤ x_cn X p) → wp_X6_next_34 post (nI p) (nI q) x3 S1 := fun S1 hS1 hok => by
          unfold wp_X6_next_34
          exact brnt c (s_forget (fun S3 hf hS3 => h1 hok S3 (RC_of (hS3 _ hS1) hf)))
        unfold wp_X5_add
        refine s_indexOf hX hn hp hq (fun i hi hiq he => ?_) (fun he => ?_)
        · refine brf (n_m1 (by omega)) (brnt (by decide) (fin S ?_ (fun k => by rw [he] at k; exact absurd k.2.1 (by decide))))
          rw [ncn_t he, xnx_id he]
          exact ⟨hv, ha, hd, hn⟩
        · refine brt rfl ⟨vp_in_nI (by omega) (by omega), ?_⟩
          rw [n_cl (by omega), n1, n_4p]
          refine br (fun c4 => ?_) (fun c4 => brnf rfl (h0 ?_ S hR))
          · have hlt := (xl (a := x_cn X p) (b := 4) (by omega) (by omega)).mp c4
            refine ⟨vp_in_nI (by omega) (by omega), vp_in_nI (by omega) (by omega), fun S1 e1 => ⟨vp_in_nI (by omega) (by omega), vp_in_nI (by omega) (by omega), fun S2 e2 => ?_⟩⟩
            rw [n_cl (by omega)] at e1
            have g1 : gC_ncnt S1 = gC_ncnt S := by subst e1; rfl
            rw [g1, n1, show nI (x_cn X p) + (1 : Int32) = nI (x_cn X p + 1) from nI_1 _] at e2
            refine brnt (by decide) (fin S2 ?_ (fun k => by omega))
            have g2 : gC_ncnt S2 = upd (gC_ncnt S) p (nI (x_cn X p + 1)) := by subst e2; rfl
            have g2n : gC_nexts S2 = upd (gC_nexts S) (4 * p + x_cn X p) (nI q) := by subst e2; subst e1; rfl
            have hv2 : RCv S2 (xnx X p q true (ncn X p q true)) := by subst e2; subst e1; exact hv
            have ha2 : RCa S2 (xnx X p q true (ncn X p q true)) := by subst e2; subst e1; exact ha
            have hd2 : RCd S2 (xnx X p q true (ncn X p q true)) := by subst e2; subst e1; exact hd
            refine ⟨hv2, ha2, hd2, fun a ha => ?_⟩
            rw [ncn_t0 he]
            have e4 : x_cn (xnx X p q true (x_cn X p + 1)) a = un_ (x_cn X) p (x_cn X p + 1) a := rfl
            rw [e4, g2, g2n]
            by_cases hap : a = p
            · subst hap
              rw [un_s, u_s]
              refine ⟨rfl, fun j hj => ?_, fun b hb => ?_, fun j1 j2 hj1 hj2 e => ?_⟩
              · by_cases hjl : j = x_cn X a
                · subst hjl
                  rw [u_s]
                  exact ⟨q, hq, rfl, by rw [xnx_ed, if_pos ⟨rfl, rfl⟩]⟩
                · rw [u_n (by omega)]
                  obtain ⟨b, hb1, hb2, hb3⟩ := n2 j (by omega)
                  refine ⟨b, hb1, hb2, ?_⟩
                  rw [xnx_ed]
                  split
                  · rfl
                  · exact hb3
              · rw [xnx_ed] at hb
                by_cases hbq : b = q
                · subst hbq
                  exact ⟨x_cn X a, by omega, u_s⟩
                · rw [if_neg (fun k => hbq k.2)] at hb
                  obtain ⟨j, hj, e⟩ := n3 b hb
                  exact ⟨j, by omega, by rw [u_n (by omega)]; exact e⟩
              · have hne : ∀ j, j < x_cn X a → gC_nexts S (4 * a + j) ≠ nI q := fun j hj k => by
                  obtain ⟨b, hb1, hb2, hb3⟩ := n2 j hj
                  have e := n_inj (by omega) (by omega) (k.symm.trans hb2)
                  rw [e] at he
                  rw [he] at hb3
                  cases hb3
                by_cases h1l : j1 = x_cn X a
                · subst h1l
                  rw [u_s] at e
                  by_cases h2l : j2 = x_cn X a
                  · exact h2l.symm
                  · rw [u_n (by omega)] at e
                    exact absurd e.symm (hne j2 (by omega))
                · rw [u_n (by omega)] at e
                  by_cases h2l : j2 = x_cn X a
                  · subst h2l
                    rw [u_s] at e
                    exact absurd e (hne j1 (by omega))
                  · rw [u_n (by omega)] at e
                    exact n4 _ _ (by omega) (by omega) e
            · rw [un_n hap, u_n hap]
              have hca := hX.2.2.2.2.1 a ha
              obtain ⟨m1, m2, m3, m4⟩ := hn a ha
              refine ⟨m1, fun j hj => ?_, fun b hb => ?_, fun j1 j2 hj1 hj2 e => ?_⟩
              · rw [u_n (by omega)]
                obtain ⟨b, hb1, hb2, hb3⟩ := m2 j hj
                exact ⟨b, hb1, hb2, by rw [xnx_ed, if_neg (fun k => hap k.1)]; exact hb3⟩
              · rw [xnx_ed, if_neg (fun k => hap k.1)] at hb
                obtain ⟨j, hj, e⟩ := m3 b hb
                exact ⟨j, hj, by rw [u_n (by omega)]; exact e⟩
              · rw [u_n (by omega), u_n (by omega)] at e
                exact m4 _ _ hj1 hj2 e
          · rintro ⟨p', q', k1, k2, k3, k4, k5⟩
            have ep := n_inj (by omega) (by omega) k3
            have eq := n_inj (by omega) (by omega) k4
            subst ep; subst eq
            refine k5 ⟨c, he, ?_⟩
            have : ¬ x_cn X p < 4 := fun k => c4 ((xl (a := x_cn X p) (b := 4) (by omega) (by omega)).mpr k)
            omega
    · rintro ⟨p', q', k1, k2, k3, k4, _⟩
      exact c ⟨q', k2, k4⟩
  · rintro ⟨p', q', k1, k2, k3, k4, _⟩
    exact c ⟨p', k1, k3⟩
end CNX

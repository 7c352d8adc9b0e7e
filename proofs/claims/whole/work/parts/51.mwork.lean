theorem cnt_dn {Q : Nat → Prop} {c : Nat} (hc : c < 150) (h : Q c) : cnt (fun p => c ≤ p ∧ Q p) 150 = cnt (fun p => c + 1 ≤ p ∧ Q p) 150 + 1 := by
  rw [← cnt_add (P := fun p => c + 1 ≤ p ∧ Q p) hc (fun z => by omega)]
  refine cnt_congr (fun k _ => ⟨fun z => ?_, fun z => ?_⟩)
  · by_cases e : k = c
    · exact Or.inr e
    · exact Or.inl ⟨by omega, z.2⟩
  · rcases z with z | z
    · exact ⟨by omega, z.2⟩
    · subst z; exact ⟨Nat.le_refl _, h⟩
theorem cnt_dn0 {Q : Nat → Prop} {c : Nat} (h : ¬ Q c) : cnt (fun p => c ≤ p ∧ Q p) 150 = cnt (fun p => c + 1 ≤ p ∧ Q p) 150 := by
  refine cnt_congr (fun k _ => ⟨fun z => ⟨?_, z.2⟩, fun z => ⟨by omega, z.2⟩⟩)
  by_cases e : k = c
  · subst e; exact absurd z.2 h
  · omega
def FI (X : XT) (M1 : MS) (c : Nat) (M : MS) : Prop :=
  (M.1 = M1.1 ∧ gM_isOld M = 0) ∧ VMw M X ∧ VMe M X ∧ VMu M X ∧ VMh M X ∧
  (∀ l p, l < 150 → p < 150 → c ≤ p → ml X l → rch X p → gM_force M (150 * l + p) = bi (frc X l p)) ∧
  gM_lacking M = nI (cnt (fun p => c ≤ p ∧ lks X p) 150) ∧ gM_clashing M = nI (cnt (fun p => c ≤ p ∧ clp X p) 150) ∧
  (∀ p, p < 150 → c ≤ p → lks X p → (∀ j, c ≤ j → j < p → ¬ lks X j) → gM_fault M = 3 ∧ gM_faultP M = nI p) ∧
  ((∀ p, p < 150 → c ≤ p → ¬ lks X p) → (∀ p, p < 150 → c ≤ p → clp X p → (∀ j, c ≤ j → j < p → ¬ clp X j) → gM_fault M = 4 ∧ gM_faultP M = nI p ∧ gM_otherP M = lea (fun l => cla X l p) 150) ∧ ((∀ p, p < 150 → c ≤ p → ¬ clp X p) → gM_fault M = 0))
section MWO
variable {M1 M : MS} {X : XT}
theorem FI_n3 {c : Nat} (h : FI X M1 c M) (hn : ∀ p, p < 150 → c ≤ p → ¬ lks X p) : gM_fault M = 4 ∨ gM_fault M = 0 := by
  obtain ⟨_, _, _, _, _, _, _, _, _, h2⟩ := h
  obtain ⟨h2, h3⟩ := h2 hn
  by_cases hc : ∃ p, p < 150 ∧ c ≤ p ∧ clp X p
  · obtain ⟨p, p1, p2⟩ := pk_least (fun p => p < 150 ∧ c ≤ p ∧ clp X p) hc
    exact Or.inl (h2 p p1.1 p1.2.1 p1.2.2 (fun j j1 j2 z => p2 j j2 ⟨by omega, j1, z⟩)).1
  · exact Or.inr (h3 (fun p p1 p2 z => hc ⟨p, p1, p2, z⟩))
theorem FI_skip {c : Nat} (hr : ¬ rch X c) (h : FI X M1 (c + 1) M) : FI X M1 c M := by
  obtain ⟨h1, h2, h3, h4, h5, h6, h7, h8, h9, h10⟩ := h
  have nl : ¬ lks X c := fun z => hr z.1
  have nc : ¬ clp X c := fun z => hr z.1
  have up : ∀ {Q : Nat → Prop} {p : Nat}, ¬ Q c → c ≤ p → Q p → c + 1 ≤ p := fun {Q p} nq hp hq => by
    by_cases e : p = c
    · subst e; exact absurd hq nq
    · omega
  refine ⟨h1, h2, h3, h4, h5, fun l p q1 q2 q3 q4 q5 => h6 l p q1 q2 (up hr q3 q5) q4 q5, ?_, ?_, fun p q1 q2 q3 q4 => h9 p q1 (up nl q2 q3) q3 (fun j j1 j2 => q4 j (by omega) j2), fun hn => ?_⟩
  · rw [cnt_dn0 nl]; exact h7
  · rw [cnt_dn0 nc]; exact h8
  · obtain ⟨k1, k2⟩ := h10 (fun p q1 q2 => hn p q1 (by omega))
    exact ⟨fun p q1 q2 q3 q4 => k1 p q1 (up nc q2 q3) q3 (fun j j1 j2 => q4 j (by omega) j2), fun z => k2 (fun p q1 q2 => z p q1 (by omega))⟩
theorem FI_look {c : Nat} {M' : MS} (hc : c < 150) (h : FI X M1 (c + 1) M) (hk : LK X c M M') : FI X M1 c M' := by
  have hn3 := FI_n3 h
  obtain ⟨h1, h2, h3, h4, h5, h6, h7, h8, h9, h10⟩ := h
  obtain ⟨⟨f1, f2, f3, f4, f5, f6, f7, f8, f9⟩, k1, k2, k3, k4, k5, k6, k7⟩ := hk
  refine ⟨⟨f1.trans h1.1, f2.trans h1.2⟩, VMw_eq f3 h2, VMe_eq f4 f5 h3, VMu_eq f6 h4, VMh_eq f7 f8 h5, fun l p q1 q2 q3 q4 q5 => ?_, ?_, ?_, fun p q1 q2 q3 q4 => ?_, fun hn => ?_⟩
  · by_cases e : p = c
    · subst e; exact k1 l q1 q4
    · rw [f9 _ (fun j z => by omega)]
      exact h6 l p q1 q2 (by omega) q4 q5
  · rw [k3, h7]
    by_cases hl : lks X c
    · rw [bi_t hl, cnt_dn hc hl]; exact nI_1 _
    · rw [bi_f hl, cnt_dn0 hl]; exact Int32.add_zero _
  · rw [k2, h8]
    by_cases hl : clp X c
    · rw [bi_t hl, cnt_dn hc hl]; exact nI_1 _
    · rw [bi_f hl, cnt_dn0 hl]; exact Int32.add_zero _
  · by_cases e : p = c
    · subst e; exact k4 q3
    · have nl : ¬ lks X c := q4 c (Nat.le_refl _) (by omega)
      obtain ⟨z1, z2⟩ := h9 p q1 (by omega) q3 (fun j j1 j2 => q4 j (by omega) j2)
      obtain ⟨y1, y2⟩ := k5 nl z1
      exact ⟨y1, y2.trans z2⟩
  · have nl : ¬ lks X c := hn c hc (Nat.le_refl _)
    have hn' : ∀ p, p < 150 → c + 1 ≤ p → ¬ lks X p := fun p q1 q2 => hn p q1 (by omega)
    have h43 : ¬ gM_fault M = 3 := fun z => by
      rcases hn3 hn' with y | y
      · rw [y] at z; exact absurd z (by decide)
      · rw [y] at z; exact absurd z (by decide)
    obtain ⟨z1, z2⟩ := h10 hn'
    refine ⟨fun p q1 q2 q3 q4 => ?_, fun z => ?_⟩
    · by_cases e : p = c
      · subst e; exact k6 nl h43 q3
      · have nc : ¬ clp X c := q4 c (Nat.le_refl _) (by omega)
        obtain ⟨y1, y2, y3⟩ := k7 nl h43 nc
        obtain ⟨w1, w2, w3⟩ := z1 p q1 (by omega) q3 (fun j j1 j2 => q4 j (by omega) j2)
        exact ⟨y1.trans w1, y2.trans w2, y3.trans w3⟩
    · have nc : ¬ clp X c := z c hc (Nat.le_refl _)
      exact (k7 nl h43 nc).1.trans (z2 (fun p q1 q2 => z p q1 (by omega)))
theorem cnt_ge0 {Q : Nat → Prop} : cnt (fun p => 0 ≤ p ∧ Q p) 150 = cnt Q 150 := cnt_congr (fun k _ => ⟨fun z => z.2, fun z => ⟨by omega, z⟩⟩)
theorem m_work_166 (hX : XI X) (hb : RMb M1 X) {post : MS → Prop} (h : ∀ M', RM M' X → gM_isOld M' = 0 → post M') (hF : FI X M1 150 M) : ∃ n_, wp_X7_workOut_166 post n_ 149 M := by
  have key : ∀ (c : Nat), c ≤ 150 → ∀ M', FI X M1 c M' → wp_X7_workOut_166 post (c + 1) (nI c + (-1 : Int32)) M' := by
    intro c
    induction c with
    | zero =>
      intro hc M' hF
      show ws_X7_workOut_166 _ post _ M'
      unfold ws_X7_workOut_166
      refine brt (by decide) ?_
      have hn3 := FI_n3 hF
      obtain ⟨⟨h1, h1o⟩, h2, h3, h4, h5, h6, h7, h8, h9, h10⟩ := hF
      have hbM : RMb M' X := RMb_eq h1 hb
      rw [cnt_ge0] at h7 h8
      have hfo : ∀ l p, l < 150 → p < 150 → ml X l → rch X p → gM_force M' (150 * l + p) = bi (frc X l p) := fun l p q1 q2 q3 q4 => h6 l p q1 q2 (by omega) q3 q4
      by_cases hl : ∃ p, p < 150 ∧ lks X p
      · obtain ⟨p, ⟨p1, p2⟩, p3⟩ := pk_least (fun p => p < 150 ∧ lks X p) hl
        obtain ⟨e1, e2⟩ := h9 p p1 (by omega) p2 (fun j _ j2 z => p3 j j2 ⟨by omega, z⟩)
        rw [e1, e2]
        refine brnf rfl (m_taker hX hbM h2 h3 p1 p2 (fun M2 k2 S1 e3 => ?_))
        have elea : lea (lks X) 150 = nI p := lea_eq p1 p2 (fun j j2 z => p3 j j2 ⟨by omega, z⟩)
        have hkd : kd X = 3 := by unfold kd; rw [if_pos hl]
        have hfp : fp X = nI p := by unfold fp; rw [if_pos hl, elea]
        have hop : op X = tkr X p := by unfold op; rw [if_pos hl, elea, n_cl (by omega)]
        have g1 : S1.1 = M'.1 := by subst e3; exact k2.1
        have g2 : S1.2.1 = M'.2.1 := by subst e3; exact k2.2.1
        have gF : M2.2.2.2 = M'.2.2.2 := k2.2.2
        have go : gM_isOld S1 = 0 := by subst e3; show M2.2.2.2.1 = 0; rw [gF]; exact h1o
        have gf : gM_fault S1 = 3 := by subst e3; show M2.2.2.2.2.1 = 3; rw [gF]; exact e1
        have gp : gM_faultP S1 = nI p := by subst e3; show M2.2.2.2.2.2.1 = nI p; rw [gF]; exact e2
        have gq : gM_otherP S1 = tkr X p := by subst e3; rfl
        have gl : gM_lacking S1 = nI (cnt (lks X) 150) := by subst e3; show M2.2.2.2.2.2.2.2.1 = _; rw [gF]; exact h7
        have gc : gM_clashing S1 = nI (cnt (clp X) 150) := by subst e3; show M2.2.2.2.2.2.2.2.2 = _; rw [gF]; exact h8
        refine h S1 ⟨RMb_eq g1 hbM, fun _ => ⟨VMw_eq ?_ h2, VMe_eq ?_ ?_ h3, VMu_eq ?_ h4, VMh_eq ?_ ?_ h5, ?_, ?_, ?_, gl, gc⟩⟩ go
        · unfold gM_come; rw [g2]
        · unfold gM_lost; rw [g2]
        · unfold gM_had; rw [g2]
        · unfold gM_used; rw [g2]
        · unfold gM_rowOf; rw [g2]
        · unfold gM_holds; rw [g2]
        · have : gM_force S1 = gM_force M' := by unfold gM_force; rw [g2]
          rw [this]; exact hfo
        · rw [gf, hkd]
        · exact Or.inr ⟨by rw [gp, hfp], by rw [gq, hop]⟩
      · have hn : ∀ p, p < 150 → 0 ≤ p → ¬ lks X p := fun p p1 _ z => hl ⟨p, p1, z⟩
        have h43 : ¬ gM_fault M' = 3 := fun z => by
          rcases hn3 hn with y | y
          · rw [y] at z; exact absurd z (by decide)
          · rw [y] at z; exact absurd z (by decide)
        obtain ⟨k1, k2⟩ := h10 hn
        refine brnt h43 (h M' ⟨hbM, fun _ => ⟨h2, h3, h4, h5, hfo, ?_, ?_, h7, h8⟩⟩ h1o)
        · unfold kd
          rw [if_neg hl]
          by_cases hc : ∃ p, p < 150 ∧ clp X p
          · obtain ⟨p, ⟨p1, p2⟩, p3⟩ := pk_least (fun p => p < 150 ∧ clp X p) hc
            rw [if_pos hc]
            exact (k1 p p1 (by omega) p2 (fun j _ j2 z => p3 j j2 ⟨by omega, z⟩)).1
          · rw [if_neg hc]
            exact k2 (fun p p1 _ z => hc ⟨p, p1, z⟩)
        · by_cases hc : ∃ p, p < 150 ∧ clp X p
          · obtain ⟨p, ⟨p1, p2⟩, p3⟩ := pk_least (fun p => p < 150 ∧ clp X p) hc
            obtain ⟨y1, y2, y3⟩ := k1 p p1 (by omega) p2 (fun j _ j2 z => p3 j j2 ⟨by omega, z⟩)
            have elea : lea (clp X) 150 = nI p := lea_eq p1 p2 (fun j j2 z => p3 j j2 ⟨by omega, z⟩)
            refine Or.inr ⟨?_, ?_⟩
            · unfold fp; rw [if_neg hl, elea]; exact y2
            · unfold op; rw [if_neg hl, elea, n_cl (by omega)]; exact y3
          · exact Or.inl (by unfold kd; rw [if_neg hl, if_neg hc])
    | succ c ih =>
      intro hc M' hF
      show ws_X7_workOut_166 _ post _ M'
      rw [n_dn]
      unfold ws_X7_workOut_166
      have hc1 : c < 150 := by omega
      have inc : ∀ M2, FI X M1 c M2 → wp_X7_workOut_184 (wp_X7_workOut_166 post (c + 1)) post (nI c) M2 := fun M2 z => by
        unfold wp_X7_workOut_184
        intro y ey
        subst ey
        exact ih (by omega) M2 z
      rw [n_cl (by omega), hF.2.1 c hc1]
      exact brf (xn (by omega)) ⟨vp_in_nI (by omega) (by omega), bi_br (fun cr => m_look hX (RMb_eq hF.1.1 hb) hF.2.1 hF.2.2.1 hF.2.2.2.1 hF.2.2.2.2.1 cr (fun M2 k => inc M2 (FI_look hc1 hF k))) (fun cr => inc M' (FI_skip cr hF))⟩
  exact ⟨_, key 150 (Nat.le_refl _) M hF⟩
def VH_ (X : XT) (i : Nat) (M : MS) : Prop := ∀ l, l < i → (¬ ml X l → gM_rowOf M l = -1) ∧ (ml X l → gM_rowOf M l = nI (cnt (ml X) l) ∧ ∀ p r, p < 150 → r < 16 → gM_holds M (2400 * cnt (ml X) l + 16 * p + r) = bi (hld X l p r))
theorem m_work_91 (hX : XI X) (hb : RMb M1 X) {post : MS → Prop} (h : ∀ M', RM M' X → gM_isOld M' = 0 → post M') (g1 : M.1 = M1.1) (g2 : gM_isOld M = 0) (hw : VMw M X) (he : VMe M X) (hu : VMu M X) : ∃ n_, wp_X7_workOut_91 post n_ 0 0 M := by
  have key : ∀ (k i : Nat), i + k = 150 → ∀ M', M'.1 = M1.1 → gM_isOld M' = 0 → VMw M' X → VMe M' X → VMu M' X → VH_ X i M' → wp_X7_workOut_91 post (k + 1) (nI (cnt (ml X) i)) (nI i) M' := by
    intro k
    induction k with
    | zero =>
      intro i hi M' g1 g2 hw he hu hh
      have e : i = 150 := by omega
      subst e
      show ws_X7_workOut_91 _ post _ _ M'
      unfold ws_X7_workOut_91
      refine brt (by decide) (fun S1 e1 S2 e2 S3 e3 S4 e4 S5 e5 => m_work_166 hX hb h ⟨⟨?_, ?_⟩, ?_, ?_, ?_, ?_, fun l p _ q1 q2 => by omega, ?_, ?_, fun p q1 q2 => by omega, fun _ => ⟨fun p q1 q2 => by omega, fun _ => ?_⟩⟩)
      · subst e5; subst e4; subst e3; subst e2; subst e1; exact g1
      · subst e5; subst e4; subst e3; subst e2; subst e1; exact g2
      · subst e5; subst e4; subst e3; subst e2; subst e1; exact hw
      · subst e5; subst e4; subst e3; subst e2; subst e1; exact he
      · subst e5; subst e4; subst e3; subst e2; subst e1; exact hu
      · subst e5; subst e4; subst e3; subst e2; subst e1; exact hh
      · have : cnt (fun p => 150 ≤ p ∧ lks X p) 150 = 0 := by
          rw [cnt_congr (P := fun p => 150 ≤ p ∧ lks X p) (Q := fun _ => False) (fun k hk => ⟨fun z => by omega, fun z => z.elim⟩), cnt_F]
        rw [this]; subst e5; subst e4; rfl
      · have : cnt (fun p => 150 ≤ p ∧ clp X p) 150 = 0 := by
          rw [cnt_congr (P := fun p => 150 ≤ p ∧ clp X p) (Q := fun _ => False) (fun k hk => ⟨fun z => by omega, fun z => z.elim⟩), cnt_F]
        rw [this]; subst e5; rfl
      · subst e5; subst e4; subst e3; subst e2; subst e1; rfl
    | succ k ih =>
      intro i hi M' g1 g2 hw he hu hh
      show ws_X7_workOut_91 _ post _ _ M'
      unfold ws_X7_workOut_91
      have hi1 : i < 150 := by omega
      have hvi : vp_in (nI i) 150 := vp_in_nI (by omega) (by omega)
      have ih := ih (i + 1) (by omega)
      refine brf (fun q => absurd ((xc (a := 150) (b := i) (by omega) (by omega)).mp q) (by omega)) ⟨hvi, fun S6 e6 => ?_⟩
      rw [n_cl (by omega)] at e6
      have b6 : S6.1 = M1.1 := by subst e6; exact g1
      have r6 : gM_rowOf S6 = upd (gM_rowOf M') i (-1) := by subst e6; rfl
      have h6 : gM_holds S6 = gM_holds M' := by subst e6; rfl
      refine m_makesLoan hX (RMb_eq b6 hb) hi1 (bi_brn (fun cm => ⟨hvi, fun S7 e7 x8 e8 => ?_⟩) (fun cm => ?_))
      · subst e8
        rw [n_cl (by omega)] at e7
        have b7 : S7.1 = M1.1 := by subst e7; exact b6
        have w7 : VMw S7 X := by subst e7; subst e6; exact hw
        have v7 : VMe S7 X := by subst e7; subst e6; exact he
        have u7 : VMu S7 X := by subst e7; subst e6; exact hu
        have o7 : gM_isOld S7 = 0 := by subst e7; subst e6; exact g2
        have r7 : gM_rowOf S7 = upd (gM_rowOf S6) i (nI (cnt (ml X) i)) := by subst e7; rfl
        have h7 : gM_holds S7 = gM_holds M' := by subst e7; exact h6
        have h60 := Nat.lt_of_lt_of_le (cnt_lt_of (P := ml X) (a := i) (b := 150) hi1 cm) (ml_60 hX)
        refine m_walkLoan hX (RMb_eq b7 hb) w7 hi1 cm (by rw [r7, u_s]) h60 (fun M2 k2 hl2 => ?_)
        unfold wp_X7_workOut_131
        intro y ey
        subst ey
        rw [show nI i + (1 : Int32) = nI (i + 1) from nI_1 i, show nI (cnt (ml X) i) + (1 : Int32) = nI (cnt (ml X) i + 1) from nI_1 _]
        rw [cnt_s_t cm] at ih
        refine ih M2 (k2.1.trans b7) ?_ (VMw_eq k2.2.2.1 w7) (VMe_eq k2.2.2.2.1 k2.2.2.2.2.1 v7) (VMu_eq k2.2.2.2.2.2.1 u7) (fun l hl => ?_)
        · have : gM_isOld M2 = gM_isOld S7 := by unfold gM_isOld; rw [k2.2.1]
          rw [this]; exact o7
        · rw [k2.2.2.2.2.2.2.1, r7, r6]
          by_cases e : l = i
          · subst e
            rw [u_s]
            exact ⟨fun z => absurd cm z, fun _ => ⟨rfl, hl2⟩⟩
          · rw [u_n e, u_n e]
            refine ⟨(hh l (by omega)).1, fun hm => ⟨((hh l (by omega)).2 hm).1, fun p r hp hr => ?_⟩⟩
            have hlt := cnt_lt_of (P := ml X) (a := l) (b := i) (by omega) hm
            rw [k2.2.2.2.2.2.2.2 _ (Or.inl (by omega)), h7]
            exact ((hh l (by omega)).2 hm).2 p r hp hr
      · unfold wp_X7_workOut_131
        intro y ey
        subst ey
        rw [show nI i + (1 : Int32) = nI (i + 1) from nI_1 i]
        rw [cnt_s_f cm] at ih
        refine ih S6 b6 (by subst e6; exact g2) (by subst e6; exact hw) (by subst e6; exact he) (by subst e6; exact hu) (fun l hl => ?_)
        rw [r6, h6]
        by_cases e : l = i
        · subst e
          rw [u_s]
          exact ⟨fun _ => rfl, fun z => absurd z cm⟩
        · rw [u_n e]
          exact hh l (by omega)
  exact ⟨_, key 150 0 (by omega) M g1 g2 hw he hu (fun l hl => by omega)⟩
def VE_ (X : XT) (P : Nat → Nat → Prop) (M : MS) : Prop := ∀ p v f, p < 150 → v < x_nv X → f < x_lv X v → P v f → gM_lost M (64 * p + 4 * v + f) = bi (lst X v f p) ∧ gM_had M (64 * p + 4 * v + f) = bi (hd X v f p)
def VU_ (X : XT) (P : Nat → Prop) (M : MS) : Prop := ∀ p r, p < 150 → r < x_nv X → x_so X r ≠ 0 → P r → gM_used M (16 * p + r) = bi (usd X r p)
theorem m_work_19 (hX : XI X) (hb : RMb M1 X) {post : MS → Prop} (h : ∀ M', RM M' X → gM_isOld M' = 0 → post M') (g1 : M.1 = M1.1) (g2 : gM_isOld M = 0) (hw : VMw M X) : ∃ n_, wp_X7_workOut_19 post n_ 0 M := by
  have hn := hX.1
  have key : ∀ (k v : Nat), v + k = x_nv X → ∀ M', M'.1 = M1.1 → gM_isOld M' = 0 → VMw M' X → VE_ X (fun a _ => a < v) M' → VU_ X (fun a => a < v) M' → wp_X7_workOut_19 post (k + 1) (nI v) M' := by
    intro k
    induction k with
    | zero =>
      intro v hv M' g1 g2 hw he hu
      show ws_X7_workOut_19 _ post _ M'
      unfold ws_X7_workOut_19
      have hbM : RMb M' X := RMb_eq g1 hb
      rw [hbM.1.1]
      exact brt ((xc (by omega) (by omega)).mpr (by omega)) (m_work_91 hX hb h g1 g2 hw (fun p a f q1 q2 q3 => he p a f q1 q2 q3 (by omega)) (fun p r q1 q2 q3 => hu p r q1 q2 q3 (by omega)))
    | succ k ih =>
      intro v hv M' g1 g2 hw he hu
      show ws_X7_workOut_19 _ post _ M'
      unfold ws_X7_workOut_19
      have hv1 : v < x_nv X := by omega
      have h4 := hX.2.1 v hv1
      have ih := ih (v + 1) (by omega)
      have hbM : RMb M' X := RMb_eq g1 hb
      rw [hbM.1.1]
      refine brf (fun q => absurd ((xc (by omega) (by omega)).mp q) (by omega)) ?_
      have hvi : vp_in (nI v) 16 := vp_in_nI (by omega) (by omega)
      have key2 : ∀ (j f : Nat), f + j = x_lv X v → ∀ M2, M2.1 = M1.1 → gM_isOld M2 = 0 → VMw M2 X → VE_ X (fun a b => a < v ∨ (a = v ∧ b < f)) M2 → VU_ X (fun a => a < v) M2 → wp_X7_workOut_29 (wp_X7_workOut_19 post (k + 1)) post (j + 1) (nI v) (nI f) M2 := by
        intro j
        induction j with
        | zero =>
          intro f hf M2 g1 g2 hw he hu
          show ws_X7_workOut_29 _ _ post _ _ M2
          unfold ws_X7_workOut_29
          have hbM : RMb M2 X := RMb_eq g1 hb
          rw [n_cl (by omega), (hbM.1.2 v hv1).1, (hbM.1.2 v hv1).2.1, ek0 (by omega)]
          have he' : VE_ X (fun a _ => a < v + 1) M2 := fun p a b q1 q2 q3 q4 => he p a b q1 q2 q3 (by
            by_cases e : a = v
            · subst e; exact Or.inr ⟨rfl, by omega⟩
            · exact Or.inl (by omega))
          refine ⟨hvi, brt ((xc (by omega) (by omega)).mpr (by omega)) ⟨hvi, br (fun c => ?_) (fun c => m_walkUses hX hbM hw hv1 (fun M3 k3 hu3 => ?_))⟩⟩
          · unfold wp_X7_workOut_81
            intro y ey
            subst ey
            rw [show nI v + (1 : Int32) = nI (v + 1) from nI_1 v]
            refine ih M2 g1 g2 hw he' (fun p r q1 q2 q3 q4 => ?_)
            by_cases e : r = v
            · subst e; exact absurd c q3
            · exact hu p r q1 q2 q3 (by omega)
          · unfold wp_X7_workOut_81
            intro y ey
            subst ey
            rw [show nI v + (1 : Int32) = nI (v + 1) from nI_1 v]
            refine ih M3 (k3.1.trans g1) ?_ (VMw_eq k3.2.2.1 hw) ?_ (fun p r q1 q2 q3 q4 => ?_)
            · have : gM_isOld M3 = gM_isOld M2 := by unfold gM_isOld; rw [k3.2.1]
              rw [this]; exact g2
            · unfold VE_ at *
              rw [k3.2.2.2.1, k3.2.2.2.2.1]; exact he'
            · by_cases e : r = v
              · subst e; exact hu3 p q1
              · rw [k3.2.2.2.2.2 _ (fun p' z => by omega)]
                exact hu p r q1 q2 q3 (by omega)
        | succ j ihj =>
          intro f hf M2 g1 g2 hw he hu
          show ws_X7_workOut_29 _ _ post _ _ M2
          unfold ws_X7_workOut_29
          have hbM : RMb M2 X := RMb_eq g1 hb
          rw [n_cl (by omega), (hbM.1.2 v hv1).2.1]
          refine ⟨hvi, brf (fun q => absurd ((xc (by omega) (by omega)).mp q) (by omega)) (m_walkLeaf_lost hX hbM hw hv1 (by omega) (fun M3 k3 hl3 => m_walkLeaf_had hX (RMb_eq k3.1 hbM) (VMw_eq k3.2.2.1 hw) hv1 (by omega) (fun M4 k4 hd4 y ey => ?_)))⟩
          subst ey
          rw [show nI f + (1 : Int32) = nI (f + 1) from nI_1 f]
          refine ihj (f + 1) (by omega) M4 (k4.1.trans (k3.1.trans g1)) ?_ (VMw_eq k4.2.2.1 (VMw_eq k3.2.2.1 hw)) (fun p a b q1 q2 q3 q4 => ?_) ?_
          · have : gM_isOld M4 = gM_isOld M2 := by unfold gM_isOld; rw [k4.2.1, k3.2.1]
            rw [this]; exact g2
          · have hb4 := (hX.2.1 a q2).2.2.1
            by_cases e : a = v ∧ b = f
            · obtain ⟨rfl, rfl⟩ := e
              rw [Nat.add_assoc, k4.2.2.2.1]
              exact ⟨hl3 p q1, hd4 p q1⟩
            · have hne : ∀ p', 64 * p + 4 * a + b ≠ 64 * p' + (4 * v + f) := fun p' z => by omega
              rw [k4.2.2.2.1, k3.2.2.2.2.2 _ hne, k4.2.2.2.2.2 _ hne, k3.2.2.2.1]
              refine he p a b q1 q2 q3 ?_
              rcases q4 with z | z
              · exact Or.inl z
              · exact Or.inr ⟨z.1, by omega⟩
          · unfold VU_ at *
            rw [k4.2.2.2.2.1, k3.2.2.2.2.1]; exact hu
      exact ⟨_, key2 (x_lv X v) 0 (by omega) M' g1 g2 hw (fun p a b q1 q2 q3 q4 => he p a b q1 q2 q3 (by omega)) hu⟩
  exact ⟨_, key (x_nv X) 0 (by omega) M g1 g2 hw (fun p a b _ _ _ z => by omega) (fun p r _ _ _ z => by omega)⟩
theorem m_workOut (hX : XI X) (hM : RM M X) {post : MS → Prop} (h : ∀ M', RM M' X → gM_isOld M' = 0 → post M') : wp_X7_workOut M post := by
  unfold wp_X7_workOut
  refine brn (fun c S1 e1 => ?_) (fun c => h M hM c)
  have b1 : S1.1 = M.1 := by subst e1; rfl
  have o1 : gM_isOld S1 = 0 := by subst e1; rfl
  refine m_walkWays hX (RMb_eq b1 hM.1) (fun M2 k2 hw2 => m_work_19 hX (RMb_eq b1 hM.1) h k2.1 ?_ hw2)
  have : gM_isOld M2 = gM_isOld S1 := by unfold gM_isOld; rw [k2.2]
  rw [this]; exact o1
end MWO

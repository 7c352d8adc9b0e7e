section SUC
variable {M0 M : MS} {X : XT} {Cl V0 D0 V O : Nat → Prop} {m0 n : Nat}
theorem m_sc_ways {p : Nat} (hX : XI X) (hb : RMb M0 X) (hp : p < 150) (hcl : ∀ q, x_ed X p q = true → Cl q) {K : MS → Prop} {post : MS → Prop} (hW : WX 150 gM_come Cl (kC M0) V0 D0 m0 V O n M) (h : ∀ V' O' n' M', WX 150 gM_come Cl (kC M0) V0 D0 m0 V' O' n' M' → (∀ b, V b → V' b) → (∀ q, x_ed X p q = true → V' q) → K M') : ∃ n_, wp_X7_walkWays_66 K post n_ (nI p) 0 M := by
  have key : ∀ (k i : Nat), i + k = 4 → ∀ V' O' n' M', WX 150 gM_come Cl (kC M0) V0 D0 m0 V' O' n' M' → (∀ b, V b → V' b) → (∀ j q, j < i → gM_nexts M0 (4 * p + j) = nI q → q < 150 → V' q) → wp_X7_walkWays_66 K post (k + 1) (nI p) (nI i) M' := by
    intro k
    induction k with
    | zero =>
      intro i hi V' O' n' M' hW' hs hj
      have e : i = 4 := by omega
      subst e
      show ws_X7_walkWays_66 _ K post _ _ M'
      unfold ws_X7_walkWays_66
      refine brt (by decide) (h V' O' n' M' hW' hs (fun q hq => ?_))
      obtain ⟨j, j1, j2⟩ := (hb.2.2 p hp).2.1 q hq
      exact hj j q j1 j2 (hX.2.2.2.1 p q hq).2
    | succ k ih =>
      intro i hi V' O' n' M' hW' hs hj
      show ws_X7_walkWays_66 _ K post _ _ M'
      unfold ws_X7_walkWays_66
      have hnx : gM_nexts M' = gM_nexts M0 := by have := hW'.1.1.1; unfold gM_nexts; rw [this]
      have inc : ∀ V2 O2 n2 M2, WX 150 gM_come Cl (kC M0) V0 D0 m0 V2 O2 n2 M2 → (∀ b, V b → V2 b) → (∀ j q, j < i + 1 → gM_nexts M0 (4 * p + j) = nI q → q < 150 → V2 q) → wp_X7_walkWays_113 (wp_X7_walkWays_66 K post (k + 1)) post (nI p) (nI i) M2 := fun V2 O2 n2 M2 z1 z2 z3 => by
        unfold wp_X7_walkWays_113
        intro y ey
        subst ey
        rw [show nI i + (1 : Int32) = nI (i + 1) from nI_1 i]
        exact ih (i + 1) (by omega) V2 O2 n2 M2 z1 z2 z3
      have hvi : vp_in (nI (4 * p + i)) 600 := vp_in_nI (by omega) (by omega)
      rw [n_4q, n_cl (by omega), hnx]
      refine brf (fun q => absurd ((xc (a := 4) (b := i) (by omega) (by omega)).mp q) (by omega)) ⟨hvi, ?_⟩
      rcases (hb.2.2 p hp).1 i (by omega) with e | ⟨q, q1, q2, q3⟩
      · rw [e]
        refine brt rfl (inc V' O' n' M' hW' hs (fun j q hji e2 hq => ?_))
        by_cases ej : j = i
        · subst ej; exact absurd (e2.symm.trans e) (n_m1 (by omega))
        · exact hj j q (by omega) e2 hq
      · rw [q2]
        refine brf (n_m1 (by omega)) ⟨hvi, hvi, m_come_come  q1 (hcl q q3) hW' (fun V2 O2 n2 M2 w1 w2 w3 => inc V2 O2 n2 M2 w1 (fun b z => w2 b (hs b z)) (fun j q' hji e2 hq => ?_))⟩
        by_cases ej : j = i
        · subst ej
          have := n_inj (by omega) (by omega) (e2.symm.trans q2)
          subst this; exact w3
        · exact w2 q' (hj j q' (by omega) e2 hq)
  exact ⟨_, key 4 0 (by omega) V O n M hW (fun _ z => z) (fun j q hj => by omega)⟩
theorem m_sc_losta {p : Nat} (hX : XI X) (hb : RMb M0 X) (hp : p < 150) (hcl : ∀ q, x_ed X p q = true → Cl q) {t : Nat} (ht : t < 64) {x1 x2 x3 : Int32} {K : Int32 → Int32 → Int32 → Int32 → Int32 → MS → Prop} {post : MS → Prop} (hW : WX 150 (fun M b => gM_lost M (64 * b + t)) Cl (kL t M0) V0 D0 m0 V O n M) (h : ∀ V' O' n' M', WX 150 (fun M b => gM_lost M (64 * b + t)) Cl (kL t M0) V0 D0 m0 V' O' n' M' → (∀ b, V b → V' b) → (∀ q, x_ed X p q = true → V' q) → K x1 x2 x3 (nI t) (nI p) M') : ∃ n_, wp_X7_walkLeaf_lost_116 K post n_ x1 x2 x3 (nI t) (nI p) 0 M := by
  have key : ∀ (k i : Nat), i + k = 4 → ∀ V' O' n' M', WX 150 (fun M b => gM_lost M (64 * b + t)) Cl (kL t M0) V0 D0 m0 V' O' n' M' → (∀ b, V b → V' b) → (∀ j q, j < i → gM_nexts M0 (4 * p + j) = nI q → q < 150 → V' q) → wp_X7_walkLeaf_lost_116 K post (k + 1) x1 x2 x3 (nI t) (nI p) (nI i) M' := by
    intro k
    induction k with
    | zero =>
      intro i hi V' O' n' M' hW' hs hj
      have e : i = 4 := by omega
      subst e
      show ws_X7_walkLeaf_lost_116 _ K post _ _ _ _ _ _ M'
      unfold ws_X7_walkLeaf_lost_116
      refine brt (by decide) (h V' O' n' M' hW' hs (fun q hq => ?_))
      obtain ⟨j, j1, j2⟩ := (hb.2.2 p hp).2.1 q hq
      exact hj j q j1 j2 (hX.2.2.2.1 p q hq).2
    | succ k ih =>
      intro i hi V' O' n' M' hW' hs hj
      show ws_X7_walkLeaf_lost_116 _ K post _ _ _ _ _ _ M'
      unfold ws_X7_walkLeaf_lost_116
      have hnx : gM_nexts M' = gM_nexts M0 := by have := hW'.1.1.1; unfold gM_nexts; rw [this]
      have inc : ∀ V2 O2 n2 M2, WX 150 (fun M b => gM_lost M (64 * b + t)) Cl (kL t M0) V0 D0 m0 V2 O2 n2 M2 → (∀ b, V b → V2 b) → (∀ j q, j < i + 1 → gM_nexts M0 (4 * p + j) = nI q → q < 150 → V2 q) → wp_X7_walkLeaf_lost_174 (wp_X7_walkLeaf_lost_116 K post (k + 1)) post x1 x2 x3 (nI t) (nI p) (nI i) M2 := fun V2 O2 n2 M2 z1 z2 z3 => by
        unfold wp_X7_walkLeaf_lost_174
        intro y ey
        subst ey
        rw [show nI i + (1 : Int32) = nI (i + 1) from nI_1 i]
        exact ih (i + 1) (by omega) V2 O2 n2 M2 z1 z2 z3
      have hvi : vp_in (nI (4 * p + i)) 600 := vp_in_nI (by omega) (by omega)
      rw [n_4q, n_cl (by omega), hnx]
      refine brf (fun q => absurd ((xc (a := 4) (b := i) (by omega) (by omega)).mp q) (by omega)) ⟨hvi, ?_⟩
      rcases (hb.2.2 p hp).1 i (by omega) with e | ⟨q, q1, q2, q3⟩
      · rw [e]
        refine brt rfl (inc V' O' n' M' hW' hs (fun j q hji e2 hq => ?_))
        by_cases ej : j = i
        · subst ej; exact absurd (e2.symm.trans e) (n_m1 (by omega))
        · exact hj j q (by omega) e2 hq
      · rw [q2, n_64]
        refine brf (n_m1 (by omega)) ⟨hvi, hvi, m_come_lost ht q1 (hcl q q3) hW' (fun V2 O2 n2 M2 w1 w2 w3 => inc V2 O2 n2 M2 w1 (fun b z => w2 b (hs b z)) (fun j q' hji e2 hq => ?_))⟩
        by_cases ej : j = i
        · subst ej
          have := n_inj (by omega) (by omega) (e2.symm.trans q2)
          subst this; exact w3
        · exact w2 q' (hj j q' (by omega) e2 hq)
  exact ⟨_, key 4 0 (by omega) V O n M hW (fun _ z => z) (fun j q hj => by omega)⟩
theorem m_sc_lostb {p : Nat} (hX : XI X) (hb : RMb M0 X) (hp : p < 150) (hcl : ∀ q, x_ed X p q = true → Cl q) {t : Nat} (ht : t < 64) {x1 x2 x3 : Int32} {K : Int32 → Int32 → Int32 → Int32 → MS → Prop} {post : MS → Prop} (hW : WX 150 (fun M b => gM_lost M (64 * b + t)) Cl (kL t M0) V0 D0 m0 V O n M) (h : ∀ V' O' n' M', WX 150 (fun M b => gM_lost M (64 * b + t)) Cl (kL t M0) V0 D0 m0 V' O' n' M' → (∀ b, V b → V' b) → (∀ q, x_ed X p q = true → V' q) → K x1 x2 x3 (nI t) M') : ∃ n_, wp_X7_walkLeaf_lost_249 K post n_ x1 x2 x3 (nI t) (nI p) 0 M := by
  have key : ∀ (k i : Nat), i + k = 4 → ∀ V' O' n' M', WX 150 (fun M b => gM_lost M (64 * b + t)) Cl (kL t M0) V0 D0 m0 V' O' n' M' → (∀ b, V b → V' b) → (∀ j q, j < i → gM_nexts M0 (4 * p + j) = nI q → q < 150 → V' q) → wp_X7_walkLeaf_lost_249 K post (k + 1) x1 x2 x3 (nI t) (nI p) (nI i) M' := by
    intro k
    induction k with
    | zero =>
      intro i hi V' O' n' M' hW' hs hj
      have e : i = 4 := by omega
      subst e
      show ws_X7_walkLeaf_lost_249 _ K post _ _ _ _ _ _ M'
      unfold ws_X7_walkLeaf_lost_249
      refine brt (by decide) (h V' O' n' M' hW' hs (fun q hq => ?_))
      obtain ⟨j, j1, j2⟩ := (hb.2.2 p hp).2.1 q hq
      exact hj j q j1 j2 (hX.2.2.2.1 p q hq).2
    | succ k ih =>
      intro i hi V' O' n' M' hW' hs hj
      show ws_X7_walkLeaf_lost_249 _ K post _ _ _ _ _ _ M'
      unfold ws_X7_walkLeaf_lost_249
      have hnx : gM_nexts M' = gM_nexts M0 := by have := hW'.1.1.1; unfold gM_nexts; rw [this]
      have inc : ∀ V2 O2 n2 M2, WX 150 (fun M b => gM_lost M (64 * b + t)) Cl (kL t M0) V0 D0 m0 V2 O2 n2 M2 → (∀ b, V b → V2 b) → (∀ j q, j < i + 1 → gM_nexts M0 (4 * p + j) = nI q → q < 150 → V2 q) → wp_X7_walkLeaf_lost_307 (wp_X7_walkLeaf_lost_249 K post (k + 1)) post x1 x2 x3 (nI t) (nI p) (nI i) M2 := fun V2 O2 n2 M2 z1 z2 z3 => by
        unfold wp_X7_walkLeaf_lost_307
        intro y ey
        subst ey
        rw [show nI i + (1 : Int32) = nI (i + 1) from nI_1 i]
        exact ih (i + 1) (by omega) V2 O2 n2 M2 z1 z2 z3
      have hvi : vp_in (nI (4 * p + i)) 600 := vp_in_nI (by omega) (by omega)
      rw [n_4q, n_cl (by omega), hnx]
      refine brf (fun q => absurd ((xc (a := 4) (b := i) (by omega) (by omega)).mp q) (by omega)) ⟨hvi, ?_⟩
      rcases (hb.2.2 p hp).1 i (by omega) with e | ⟨q, q1, q2, q3⟩
      · rw [e]
        refine brt rfl (inc V' O' n' M' hW' hs (fun j q hji e2 hq => ?_))
        by_cases ej : j = i
        · subst ej; exact absurd (e2.symm.trans e) (n_m1 (by omega))
        · exact hj j q (by omega) e2 hq
      · rw [q2, n_64]
        refine brf (n_m1 (by omega)) ⟨hvi, hvi, m_come_lost ht q1 (hcl q q3) hW' (fun V2 O2 n2 M2 w1 w2 w3 => inc V2 O2 n2 M2 w1 (fun b z => w2 b (hs b z)) (fun j q' hji e2 hq => ?_))⟩
        by_cases ej : j = i
        · subst ej
          have := n_inj (by omega) (by omega) (e2.symm.trans q2)
          subst this; exact w3
        · exact w2 q' (hj j q' (by omega) e2 hq)
  exact ⟨_, key 4 0 (by omega) V O n M hW (fun _ z => z) (fun j q hj => by omega)⟩
theorem m_sc_hada {p : Nat} (hX : XI X) (hb : RMb M0 X) (hp : p < 150) (hcl : ∀ q, x_ed X p q = true → Cl q) {t : Nat} (ht : t < 64) {x1 x2 x3 : Int32} {K : Int32 → Int32 → Int32 → Int32 → Int32 → MS → Prop} {post : MS → Prop} (hW : WX 150 (fun M b => gM_had M (64 * b + t)) Cl (kD t M0) V0 D0 m0 V O n M) (h : ∀ V' O' n' M', WX 150 (fun M b => gM_had M (64 * b + t)) Cl (kD t M0) V0 D0 m0 V' O' n' M' → (∀ b, V b → V' b) → (∀ q, x_ed X p q = true → V' q) → K x1 x2 x3 (nI t) (nI p) M') : ∃ n_, wp_X7_walkLeaf_had_116 K post n_ x1 x2 x3 (nI t) (nI p) 0 M := by
  have key : ∀ (k i : Nat), i + k = 4 → ∀ V' O' n' M', WX 150 (fun M b => gM_had M (64 * b + t)) Cl (kD t M0) V0 D0 m0 V' O' n' M' → (∀ b, V b → V' b) → (∀ j q, j < i → gM_nexts M0 (4 * p + j) = nI q → q < 150 → V' q) → wp_X7_walkLeaf_had_116 K post (k + 1) x1 x2 x3 (nI t) (nI p) (nI i) M' := by
    intro k
    induction k with
    | zero =>
      intro i hi V' O' n' M' hW' hs hj
      have e : i = 4 := by omega
      subst e
      show ws_X7_walkLeaf_had_116 _ K post _ _ _ _ _ _ M'
      unfold ws_X7_walkLeaf_had_116
      refine brt (by decide) (h V' O' n' M' hW' hs (fun q hq => ?_))
      obtain ⟨j, j1, j2⟩ := (hb.2.2 p hp).2.1 q hq
      exact hj j q j1 j2 (hX.2.2.2.1 p q hq).2
    | succ k ih =>
      intro i hi V' O' n' M' hW' hs hj
      show ws_X7_walkLeaf_had_116 _ K post _ _ _ _ _ _ M'
      unfold ws_X7_walkLeaf_had_116
      have hnx : gM_nexts M' = gM_nexts M0 := by have := hW'.1.1.1; unfold gM_nexts; rw [this]
      have inc : ∀ V2 O2 n2 M2, WX 150 (fun M b => gM_had M (64 * b + t)) Cl (kD t M0) V0 D0 m0 V2 O2 n2 M2 → (∀ b, V b → V2 b) → (∀ j q, j < i + 1 → gM_nexts M0 (4 * p + j) = nI q → q < 150 → V2 q) → wp_X7_walkLeaf_had_174 (wp_X7_walkLeaf_had_116 K post (k + 1)) post x1 x2 x3 (nI t) (nI p) (nI i) M2 := fun V2 O2 n2 M2 z1 z2 z3 => by
        unfold wp_X7_walkLeaf_had_174
        intro y ey
        subst ey
        rw [show nI i + (1 : Int32) = nI (i + 1) from nI_1 i]
        exact ih (i + 1) (by omega) V2 O2 n2 M2 z1 z2 z3
      have hvi : vp_in (nI (4 * p + i)) 600 := vp_in_nI (by omega) (by omega)
      rw [n_4q, n_cl (by omega), hnx]
      refine brf (fun q => absurd ((xc (a := 4) (b := i) (by omega) (by omega)).mp q) (by omega)) ⟨hvi, ?_⟩
      rcases (hb.2.2 p hp).1 i (by omega) with e | ⟨q, q1, q2, q3⟩
      · rw [e]
        refine brt rfl (inc V' O' n' M' hW' hs (fun j q hji e2 hq => ?_))
        by_cases ej : j = i
        · subst ej; exact absurd (e2.symm.trans e) (n_m1 (by omega))
        · exact hj j q (by omega) e2 hq
      · rw [q2, n_64]
        refine brf (n_m1 (by omega)) ⟨hvi, hvi, m_come_had ht q1 (hcl q q3) hW' (fun V2 O2 n2 M2 w1 w2 w3 => inc V2 O2 n2 M2 w1 (fun b z => w2 b (hs b z)) (fun j q' hji e2 hq => ?_))⟩
        by_cases ej : j = i
        · subst ej
          have := n_inj (by omega) (by omega) (e2.symm.trans q2)
          subst this; exact w3
        · exact w2 q' (hj j q' (by omega) e2 hq)
  exact ⟨_, key 4 0 (by omega) V O n M hW (fun _ z => z) (fun j q hj => by omega)⟩
theorem m_sc_hadb {p : Nat} (hX : XI X) (hb : RMb M0 X) (hp : p < 150) (hcl : ∀ q, x_ed X p q = true → Cl q) {t : Nat} (ht : t < 64) {x1 x2 x3 : Int32} {K : Int32 → Int32 → Int32 → Int32 → MS → Prop} {post : MS → Prop} (hW : WX 150 (fun M b => gM_had M (64 * b + t)) Cl (kD t M0) V0 D0 m0 V O n M) (h : ∀ V' O' n' M', WX 150 (fun M b => gM_had M (64 * b + t)) Cl (kD t M0) V0 D0 m0 V' O' n' M' → (∀ b, V b → V' b) → (∀ q, x_ed X p q = true → V' q) → K x1 x2 x3 (nI t) M') : ∃ n_, wp_X7_walkLeaf_had_249 K post n_ x1 x2 x3 (nI t) (nI p) 0 M := by
  have key : ∀ (k i : Nat), i + k = 4 → ∀ V' O' n' M', WX 150 (fun M b => gM_had M (64 * b + t)) Cl (kD t M0) V0 D0 m0 V' O' n' M' → (∀ b, V b → V' b) → (∀ j q, j < i → gM_nexts M0 (4 * p + j) = nI q → q < 150 → V' q) → wp_X7_walkLeaf_had_249 K post (k + 1) x1 x2 x3 (nI t) (nI p) (nI i) M' := by
    intro k
    induction k with
    | zero =>
      intro i hi V' O' n' M' hW' hs hj
      have e : i = 4 := by omega
      subst e
      show ws_X7_walkLeaf_had_249 _ K post _ _ _ _ _ _ M'
      unfold ws_X7_walkLeaf_had_249
      refine brt (by decide) (h V' O' n' M' hW' hs (fun q hq => ?_))
      obtain ⟨j, j1, j2⟩ := (hb.2.2 p hp).2.1 q hq
      exact hj j q j1 j2 (hX.2.2.2.1 p q hq).2
    | succ k ih =>
      intro i hi V' O' n' M' hW' hs hj
      show ws_X7_walkLeaf_had_249 _ K post _ _ _ _ _ _ M'
      unfold ws_X7_walkLeaf_had_249
      have hnx : gM_nexts M' = gM_nexts M0 := by have := hW'.1.1.1; unfold gM_nexts; rw [this]
      have inc : ∀ V2 O2 n2 M2, WX 150 (fun M b => gM_had M (64 * b + t)) Cl (kD t M0) V0 D0 m0 V2 O2 n2 M2 → (∀ b, V b → V2 b) → (∀ j q, j < i + 1 → gM_nexts M0 (4 * p + j) = nI q → q < 150 → V2 q) → wp_X7_walkLeaf_had_307 (wp_X7_walkLeaf_had_249 K post (k + 1)) post x1 x2 x3 (nI t) (nI p) (nI i) M2 := fun V2 O2 n2 M2 z1 z2 z3 => by
        unfold wp_X7_walkLeaf_had_307
        intro y ey
        subst ey
        rw [show nI i + (1 : Int32) = nI (i + 1) from nI_1 i]
        exact ih (i + 1) (by omega) V2 O2 n2 M2 z1 z2 z3
      have hvi : vp_in (nI (4 * p + i)) 600 := vp_in_nI (by omega) (by omega)
      rw [n_4q, n_cl (by omega), hnx]
      refine brf (fun q => absurd ((xc (a := 4) (b := i) (by omega) (by omega)).mp q) (by omega)) ⟨hvi, ?_⟩
      rcases (hb.2.2 p hp).1 i (by omega) with e | ⟨q, q1, q2, q3⟩
      · rw [e]
        refine brt rfl (inc V' O' n' M' hW' hs (fun j q hji e2 hq => ?_))
        by_cases ej : j = i
        · subst ej; exact absurd (e2.symm.trans e) (n_m1 (by omega))
        · exact hj j q (by omega) e2 hq
      · rw [q2, n_64]
        refine brf (n_m1 (by omega)) ⟨hvi, hvi, m_come_had ht q1 (hcl q q3) hW' (fun V2 O2 n2 M2 w1 w2 w3 => inc V2 O2 n2 M2 w1 (fun b z => w2 b (hs b z)) (fun j q' hji e2 hq => ?_))⟩
        by_cases ej : j = i
        · subst ej
          have := n_inj (by omega) (by omega) (e2.symm.trans q2)
          subst this; exact w3
        · exact w2 q' (hj j q' (by omega) e2 hq)
  exact ⟨_, key 4 0 (by omega) V O n M hW (fun _ z => z) (fun j q hj => by omega)⟩
theorem m_sc_seena {p : Nat} (hX : XI X) (hb : RMb M0 X) (hp : p < 150) (hcl : ∀ q, x_ed X p q = true → Cl q) {x1 x2 x3 : Int32} {K : Int32 → Int32 → Int32 → Int32 → MS → Prop} {post : Int32 → MS → Prop} (hW : WX 150 gM_seen Cl (kS M0) V0 D0 m0 V O n M) (h : ∀ V' O' n' M', WX 150 gM_seen Cl (kS M0) V0 D0 m0 V' O' n' M' → (∀ b, V b → V' b) → (∀ q, x_ed X p q = true → V' q) → ∃ n_, wp_X7_taker_141 K post n_ x1 x2 x3 (nI p) M') : ∃ n_, wp_X7_taker_81 K post n_ x1 x2 x3 (nI p) 0 M := by
  have key : ∀ (k i : Nat), i + k = 4 → ∀ V' O' n' M', WX 150 gM_seen Cl (kS M0) V0 D0 m0 V' O' n' M' → (∀ b, V b → V' b) → (∀ j q, j < i → gM_nexts M0 (4 * p + j) = nI q → q < 150 → V' q) → wp_X7_taker_81 K post (k + 1) x1 x2 x3 (nI p) (nI i) M' := by
    intro k
    induction k with
    | zero =>
      intro i hi V' O' n' M' hW' hs hj
      have e : i = 4 := by omega
      subst e
      show ws_X7_taker_81 _ K post _ _ _ _ _ M'
      unfold ws_X7_taker_81
      refine brt (by decide) (h V' O' n' M' hW' hs (fun q hq => ?_))
      obtain ⟨j, j1, j2⟩ := (hb.2.2 p hp).2.1 q hq
      exact hj j q j1 j2 (hX.2.2.2.1 p q hq).2
    | succ k ih =>
      intro i hi V' O' n' M' hW' hs hj
      show ws_X7_taker_81 _ K post _ _ _ _ _ M'
      unfold ws_X7_taker_81
      have hnx : gM_nexts M' = gM_nexts M0 := by have := hW'.1.1.1; unfold gM_nexts; rw [this]
      have inc : ∀ V2 O2 n2 M2, WX 150 gM_seen Cl (kS M0) V0 D0 m0 V2 O2 n2 M2 → (∀ b, V b → V2 b) → (∀ j q, j < i + 1 → gM_nexts M0 (4 * p + j) = nI q → q < 150 → V2 q) → wp_X7_taker_135 (wp_X7_taker_81 K post (k + 1)) post x1 x2 x3 (nI p) (nI i) M2 := fun V2 O2 n2 M2 z1 z2 z3 => by
        unfold wp_X7_taker_135
        intro y ey
        subst ey
        rw [show nI i + (1 : Int32) = nI (i + 1) from nI_1 i]
        exact ih (i + 1) (by omega) V2 O2 n2 M2 z1 z2 z3
      have hvi : vp_in (nI (4 * p + i)) 600 := vp_in_nI (by omega) (by omega)
      rw [n_4q, n_cl (by omega), hnx]
      refine brf (fun q => absurd ((xc (a := 4) (b := i) (by omega) (by omega)).mp q) (by omega)) ⟨hvi, ?_⟩
      rcases (hb.2.2 p hp).1 i (by omega) with e | ⟨q, q1, q2, q3⟩
      · rw [e]
        refine brt rfl (inc V' O' n' M' hW' hs (fun j q hji e2 hq => ?_))
        by_cases ej : j = i
        · subst ej; exact absurd (e2.symm.trans e) (n_m1 (by omega))
        · exact hj j q (by omega) e2 hq
      · rw [q2]
        refine brf (n_m1 (by omega)) ⟨hvi, hvi, m_come_seen  q1 (hcl q q3) hW' (fun V2 O2 n2 M2 w1 w2 w3 => inc V2 O2 n2 M2 w1 (fun b z => w2 b (hs b z)) (fun j q' hji e2 hq => ?_))⟩
        by_cases ej : j = i
        · subst ej
          have := n_inj (by omega) (by omega) (e2.symm.trans q2)
          subst this; exact w3
        · exact w2 q' (hj j q' (by omega) e2 hq)
  exact ⟨_, key 4 0 (by omega) V O n M hW (fun _ z => z) (fun j q hj => by omega)⟩
theorem m_sc_seenb {p : Nat} (hX : XI X) (hb : RMb M0 X) (hp : p < 150) (hcl : ∀ q, x_ed X p q = true → Cl q) {x1 x2 x3 x4 : Int32} {K : Int32 → Int32 → Int32 → Int32 → MS → Prop} {post : Int32 → MS → Prop} (hW : WX 150 gM_seen Cl (kS M0) V0 D0 m0 V O n M) (h : ∀ V' O' n' M', WX 150 gM_seen Cl (kS M0) V0 D0 m0 V' O' n' M' → (∀ b, V b → V' b) → (∀ q, x_ed X p q = true → V' q) → K x1 x2 x3 x4 M') : ∃ n_, wp_X7_taker_195 K post n_ x1 x2 x3 x4 (nI p) 0 M := by
  have key : ∀ (k i : Nat), i + k = 4 → ∀ V' O' n' M', WX 150 gM_seen Cl (kS M0) V0 D0 m0 V' O' n' M' → (∀ b, V b → V' b) → (∀ j q, j < i → gM_nexts M0 (4 * p + j) = nI q → q < 150 → V' q) → wp_X7_taker_195 K post (k + 1) x1 x2 x3 x4 (nI p) (nI i) M' := by
    intro k
    induction k with
    | zero =>
      intro i hi V' O' n' M' hW' hs hj
      have e : i = 4 := by omega
      subst e
      show ws_X7_taker_195 _ K post _ _ _ _ _ _ M'
      unfold ws_X7_taker_195
      refine brt (by decide) (h V' O' n' M' hW' hs (fun q hq => ?_))
      obtain ⟨j, j1, j2⟩ := (hb.2.2 p hp).2.1 q hq
      exact hj j q j1 j2 (hX.2.2.2.1 p q hq).2
    | succ k ih =>
      intro i hi V' O' n' M' hW' hs hj
      show ws_X7_taker_195 _ K post _ _ _ _ _ _ M'
      unfold ws_X7_taker_195
      have hnx : gM_nexts M' = gM_nexts M0 := by have := hW'.1.1.1; unfold gM_nexts; rw [this]
      have inc : ∀ V2 O2 n2 M2, WX 150 gM_seen Cl (kS M0) V0 D0 m0 V2 O2 n2 M2 → (∀ b, V b → V2 b) → (∀ j q, j < i + 1 → gM_nexts M0 (4 * p + j) = nI q → q < 150 → V2 q) → wp_X7_taker_249 (wp_X7_taker_195 K post (k + 1)) post x1 x2 x3 x4 (nI p) (nI i) M2 := fun V2 O2 n2 M2 z1 z2 z3 => by
        unfold wp_X7_taker_249
        intro y ey
        subst ey
        rw [show nI i + (1 : Int32) = nI (i + 1) from nI_1 i]
        exact ih (i + 1) (by omega) V2 O2 n2 M2 z1 z2 z3
      have hvi : vp_in (nI (4 * p + i)) 600 := vp_in_nI (by omega) (by omega)
      rw [n_4q, n_cl (by omega), hnx]
      refine brf (fun q => absurd ((xc (a := 4) (b := i) (by omega) (by omega)).mp q) (by omega)) ⟨hvi, ?_⟩
      rcases (hb.2.2 p hp).1 i (by omega) with e | ⟨q, q1, q2, q3⟩
      · rw [e]
        refine brt rfl (inc V' O' n' M' hW' hs (fun j q hji e2 hq => ?_))
        by_cases ej : j = i
        · subst ej; exact absurd (e2.symm.trans e) (n_m1 (by omega))
        · exact hj j q (by omega) e2 hq
      · rw [q2]
        refine brf (n_m1 (by omega)) ⟨hvi, hvi, m_come_seen  q1 (hcl q q3) hW' (fun V2 O2 n2 M2 w1 w2 w3 => inc V2 O2 n2 M2 w1 (fun b z => w2 b (hs b z)) (fun j q' hji e2 hq => ?_))⟩
        by_cases ej : j = i
        · subst ej
          have := n_inj (by omega) (by omega) (e2.symm.trans q2)
          subst this; exact w3
        · exact w2 q' (hj j q' (by omega) e2 hq)
  exact ⟨_, key 4 0 (by omega) V O n M hW (fun _ z => z) (fun j q hj => by omega)⟩
end SUC

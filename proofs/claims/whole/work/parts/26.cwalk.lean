/-! counting -/
theorem cnt_add {P : Nat → Prop} {p n : Nat} (hp : p < n) (h : ¬ P p) : cnt (fun q => P q ∨ q = p) n = cnt P n + 1 := by
  induction n with
  | zero => omega
  | succ n ih =>
    by_cases e : p = n
    · subst e
      rw [cnt_s_t (P := fun q => P q ∨ q = p) (Or.inr rfl), cnt_s_f h]
      rw [cnt_congr (P := fun q => P q ∨ q = p) (Q := P) (fun k hk => ⟨fun q => q.elim id (fun q => by omega), Or.inl⟩)]
    · have := ih (by omega)
      by_cases hn : P n
      · rw [cnt_s_t (P := fun q => P q ∨ q = p) (Or.inl hn), cnt_s_t hn]; omega
      · rw [cnt_s_f (P := fun q => P q ∨ q = p) (fun q => q.elim hn (fun q => e q.symm)), cnt_s_f hn]; omega
theorem cnt_del {P : Nat → Prop} {p n : Nat} (hp : p < n) (h : P p) : cnt (fun q => P q ∧ q ≠ p) n + 1 = cnt P n := by
  have := cnt_add (P := fun q => P q ∧ q ≠ p) hp (fun q => q.2 rfl)
  rw [← this]
  refine cnt_congr (fun k _ => ⟨fun q => ?_, fun q => ?_⟩)
  · rcases q with q | rfl
    · exact q.1
    · exact h
  · by_cases e : k = p
    · exact Or.inr e
    · exact Or.inl ⟨q, e⟩
theorem cnt_0 {P : Nat → Prop} {n : Nat} (h : cnt P n = 0) : ∀ k, k < n → ¬ P k := by
  induction n with
  | zero => intro k hk; omega
  | succ n ih =>
    intro k hk hp
    by_cases e : k = n
    · subst e; rw [cnt_s_t hp] at h; omega
    · by_cases hn : P n
      · rw [cnt_s_t hn] at h; omega
      · rw [cnt_s_f hn] at h; exact ih h k (by omega) hp
theorem cnt_lt {P : Nat → Prop} {p n : Nat} (hp : p < n) (h : ¬ P p) : cnt P n < n := by
  have := cnt_add (P := P) hp h
  have h2 := cnt_le (fun q => P q ∨ q = p) n
  omega
def sm (g : Nat → Nat) : Nat → Nat
  | 0 => 0
  | n + 1 => sm g n + g n
theorem sm_upd {g : Nat → Nat} {p n : Nat} (hp : p < n) : sm (un_ g p (g p + 1)) n = sm g n + 1 := by
  induction n with
  | zero => omega
  | succ n ih =>
    show sm _ n + _ = sm g n + g n + 1
    by_cases e : p = n
    · subst e
      rw [un_s]
      have : ∀ m, m ≤ p → sm (un_ g p (g p + 1)) m = sm g m := by
        intro m
        induction m with
        | zero => intro _; rfl
        | succ m ihm =>
          intro hm
          show sm _ m + _ = sm g m + g m
          rw [ihm (by omega), un_n (by omega)]
      rw [this p (Nat.le_refl p)]; omega
    · rw [ih (by omega), un_n (fun k => e k.symm)]; omega
theorem sm_le {g : Nat → Nat} {c n : Nat} (h : ∀ k, k < n → g k ≤ c) : sm g n ≤ c * n := by
  induction n with
  | zero => exact Nat.zero_le _
  | succ n ih =>
    show sm g n + g n ≤ _
    have := ih (fun k hk => h k (by omega))
    have := h n (by omega)
    rw [Nat.mul_succ]; omega
theorem sm_lt {g : Nat → Nat} {c p n : Nat} (h : ∀ k, k < n → g k ≤ c) (hp : p < n) (hg : g p < c) : sm g n < c * n := by
  have h1 := sm_upd (g := g) hp
  have h2 := sm_le (g := un_ g p (g p + 1)) (c := c) (n := n) (fun k hk => by
    by_cases e : k = p
    · subst e; rw [un_s]; omega
    · rw [un_n e]; exact h k hk)
  omega
theorem sm_zero (n : Nat) : sm (fun _ => 0) n = 0 := by
  induction n with
  | zero => rfl
  | succ n ih => show sm _ n + 0 = 0; rw [ih]
/-! groups of the state that stay -/
theorem RCv_eq {S S' : CS} {X : XT} (h : S'.1 = S.1) (q : RCv S X) : RCv S' X := by unfold RCv gC_vmade gC_sorts gC_lcs gC_begun at *; rw [h]; exact q
theorem RCa_eq {S S' : CS} {X : XT} (h : S'.2.1 = S.2.1) (q : RCa S X) : RCa S' X := by unfold RCa gC_kinds gC_places gC_paths gC_recvs gC_lends at *; rw [h]; exact q
theorem RCd_eq {S S' : CS} {X : XT} (h : S'.2.1 = S.2.1) (q : RCd S X) : RCd S' X := by unfold RCd gC_wanted gC_given gC_taken gC_usedR gC_renR at *; rw [h]; exact q
theorem RCn_eq {S S' : CS} {X : XT} (h1 : gC_nexts S' = gC_nexts S) (h2 : gC_ncnt S' = gC_ncnt S) (q : RCn S X) : RCn S' X := by unfold RCn at *; rw [h1, h2]; exact q
def eqW (S S' : CS) : Prop := S'.1 = S.1 ∧ S'.2.1 = S.2.1 ∧ S'.2.2.2 = S.2.2.2 ∧ gC_nexts S' = gC_nexts S ∧ gC_ncnt S' = gC_ncnt S
theorem eqW_b {S S' : CS} {X : XT} (h : eqW S S') (q : RCb S X) : RCb S' X := ⟨RCv_eq h.1 q.1, RCa_eq h.2.1 q.2.1, RCd_eq h.2.1 q.2.2.1, RCn_eq h.2.2.2.1 h.2.2.2.2 q.2.2.2⟩
/-- the walk, at its head: d points on the stack, t steps done -/
def WI (X : XT) (S0 : CS) (d t : Nat) (S : CS) : Prop := eqW S0 S ∧ ∃ (g : Nat → Nat) (V : Nat → Prop), t = sm g 150 ∧ V 0 ∧ (∀ p, V p → p < 150 ∧ rch X p) ∧
  (∀ p, p < 150 → g p ≤ x_cn X p + 1 ∧ (¬ V p → gC_tried S p = -1 ∧ g p = 0) ∧ (V p → g p ≤ x_cn X p → gC_tried S p = nI (g p)) ∧ (V p → g p = x_cn X p + 1 → gC_tried S p = nI (x_cn X p))) ∧
  (∀ p i q, p < 150 → i < g p → i < x_cn X p → gC_nexts S (4 * p + i) = nI q → q < 150 → V q) ∧
  d = cnt (fun p => V p ∧ g p ≠ x_cn X p + 1) 150 ∧
  (∀ i, i < d → ∃ p, gC_opn S i = nI p ∧ V p ∧ g p ≠ x_cn X p + 1) ∧
  (∀ i j, i < d → j < d → gC_opn S i = gC_opn S j → i = j) ∧
  gC_reached S = nI (cnt (fun p => g p = x_cn X p + 1) 150) ∧
  (∀ i, i < cnt (fun p => g p = x_cn X p + 1) 150 → ∃ p, p < 150 ∧ gC_order S i = nI p ∧ g p = x_cn X p + 1) ∧
  (∀ p, p < 150 → g p = x_cn X p + 1 → ∃ i, i < cnt (fun p => g p = x_cn X p + 1) 150 ∧ gC_order S i = nI p)
theorem WI_end {X : XT} {S0 S : CS} {d t : Nat} (hX : XI X) (hn : RCn S0 X) (h : WI X S0 d t S) (he : d = 0 ∨ 750 ≤ t) : VW S X := by
  obtain ⟨heq, g, V, ht, hV0, hV, hg, hcl, hd, hst, hsd, hrc, ho1, ho2⟩ := h
  have hd0 : d = 0 := by
    rcases he with he | he
    · exact he
    · apply Classical.byContradiction
      intro hne
      obtain ⟨p, _, hp, hgp⟩ := hst 0 (by omega)
      have hp1 := (hV p hp).1
      have hc := hX.2.2.2.2.1 p hp1
      have := sm_lt (g := g) (c := 5) (n := 150) (fun k hk => by have := (hg k hk).1; have := hX.2.2.2.2.1 k hk; omega) hp1 (by have := (hg p hp1).1; omega)
      omega
  rw [hd0] at hd
  have hfin := cnt_0 hd.symm
  have hF : ∀ p, V p → g p = x_cn X p + 1 := fun p hp => Classical.byContradiction (fun q => hfin p (hV p hp).1 ⟨hp, q⟩)
  have hF2 : ∀ p, p < 150 → g p = x_cn X p + 1 → V p := fun p hp q => Classical.byContradiction (fun k => by have := ((hg p hp).2.1 k).2; omega)
  have hR : ∀ p, rch X p → V p := fun p hp => hp V hV0 (fun a b ha hab => by
    have ha1 := (hV a ha).1
    obtain ⟨i, hi, e⟩ := (hn a ha1).2.2.1 b hab
    refine hcl a i b ha1 ?_ hi ?_ (hX.2.2.2.1 a b hab).2
    · rw [hF a ha]; omega
    · rw [heq.2.2.2.1]; exact e)
  have hcnt : cnt (fun p => g p = x_cn X p + 1) 150 = cnt (rch X) 150 := cnt_congr (fun p hp => ⟨fun q => (hV p (hF2 p hp q)).2, fun q => hF p (hR p q)⟩)
  refine ⟨⟨_, cnt_le _ _, hrc, hcnt, fun i hi => ?_, fun p hp => ho2 p (rch_lt hX hp) (hF p (hR p hp))⟩, fun p hp => ?_⟩
  · obtain ⟨p, h1, h2, h3⟩ := ho1 i hi
    exact ⟨p, h1, h2, (hV p (hF2 p h1 h3)).2⟩
  · constructor
    · intro e hr
      have := (hg p hp).2.2.2 (hR p hr) (hF p (hR p hr))
      rw [this] at e
      exact n_m1 (by have := hX.2.2.2.2.1 p hp; omega) e
    · intro hr
      exact ((hg p hp).2.1 (fun k => hr (hV p k).2)).1
theorem s_walk_loop {X : XT} {S0 : CS} (hX : XI X) (hn0 : RCn S0 X) {post : CS → Prop} (h : ∀ S', eqW S0 S' → VW S' X → post S') : ∀ a : Nat × Nat × CS, WI X S0 a.1 a.2.1 a.2.2 → ∃ n, wp_X5_walk_31 post n (nI a.1) (nI a.2.1) a.2.2 := by
  refine lpm (α := Nat × Nat × CS) (fun n a => wp_X5_walk_31 post n (nI a.1) (nI a.2.1) a.2.2) (fun a => WI X S0 a.1 a.2.1 a.2.2) (fun a => 750 - a.2.1) (fun n a hI ih => ?_)
  obtain ⟨d, t, S⟩ := a
  dsimp only at hI ih ⊢
  show ws_X5_walk_31 _ post _ _ S
  have hend := WI_end hX hn0 hI
  have hI0 := hI
  obtain ⟨heq, g, V, ht, hV0, hV, hg, hcl, hd, hst, hsd, hrc, ho1, ho2⟩ := hI
  have hn : RCn S X := RCn_eq heq.2.2.2.1 heq.2.2.2.2 hn0
  have hc4 := hX.2.2.2.2.1
  have hd150 : d ≤ 150 := by rw [hd]; exact cnt_le _ _
  have ht750 : t ≤ 750 := by
    rw [ht]
    exact sm_le (g := g) (c := 5) (n := 150) (fun k hk => by have := (hg k hk).1; have := hc4 k hk; omega)
  unfold ws_X5_walk_31
  refine br (fun c => h S heq (hend (Or.inr ((xc (a := 750) (b := t) (by omega) (by omega)).mp c)))) (fun c => ?_)
  have htl : t < 750 := by
    have : ¬ 750 ≤ t := fun k => c ((xc (a := 750) (b := t) (by omega) (by omega)).mpr k)
    omega
  refine br (fun c1 => h S heq (hend (Or.inl (by have := (xc (a := d) (b := 0) (by omega) (by omega)).mp c1; omega)))) (fun c1 => ?_)
  have hd1 : 1 ≤ d := by
    have : ¬ d ≤ 0 := fun k => c1 ((xc (a := d) (b := 0) (by omega) (by omega)).mpr k)
    omega
  rw [show nI d - (1 : Int32) = nI (d - 1) from pk_sub (b := 1) hd1]
  refine ⟨vp_in_nI (by omega) (by omega), fun x3 e3 => ?_⟩
  rw [n_cl (by omega)] at e3
  obtain ⟨p, hpo, hpV, hpg⟩ := hst (d - 1) (by omega)
  rw [hpo] at e3
  subst e3
  obtain ⟨hp, hpr⟩ := hV p hpV
  have hc := hc4 p hp
  obtain ⟨g1, g2, g3, g4⟩ := hg p hp
  have hgle : g p ≤ x_cn X p := by omega
  have htr := g3 hpV hgle
  obtain ⟨m1, m2, m3, m4⟩ := hn p hp
  have hvp : vp_in (nI p) 150 := vp_in_nI (by omega) (by omega)
  refine ⟨hvp, hvp, ?_⟩
  rw [n_cl (by omega), htr, m1]
  have h145 : ∀ (d' : Nat) (S' : CS), WI X S0 d' (t + 1) S' → wp_X5_walk_145 (wp_X5_walk_31 post n) post (nI d') (nI t) S' := fun d' S' hw => by
    unfold wp_X5_walk_145
    intro x2 e2
    subst e2
    rw [show nI t + (1 : Int32) = nI (t + 1) from nI_1 t]
    exact ih (d', t + 1, S') hw (by show 750 - (t + 1) < 750 - t; omega)
  refine br (fun c2 => ?_) (fun c2 => ?_)
  · -- a next point is looked at
    have hlt := (xl (by omega) (by omega)).mp c2
    obtain ⟨q, hq, hqn, hqe⟩ := m2 (g p) hlt
    refine ⟨hvp, s_nextOf hp (by omega) ⟨hvp, hvp, fun S2 e2 => ?_⟩⟩
    rw [htr, show nI (g p) + (1 : Int32) = nI (g p + 1) from nI_1 _] at e2
    rw [hqn]
    have t2 : gC_tried S2 = upd (gC_tried S) p (nI (g p + 1)) := by subst e2; rfl
    have heq2 : eqW S0 S2 := by subst e2; exact heq
    have o2 : gC_opn S2 = gC_opn S := by subst e2; rfl
    have r2 : gC_reached S2 = gC_reached S := by subst e2; rfl
    have or2 : gC_order S2 = gC_order S := by subst e2; rfl
    have nx2 : gC_nexts S2 = gC_nexts S := by subst e2; rfl
    refine ⟨vp_in_nI (by omega) (by omega), ?_⟩
    rw [n_cl (by omega), t2]
    have hqr : rch X q := rch_s hpr hqe
    have hg' : ∀ k, un_ g p (g p + 1) k = x_cn X k + 1 ↔ g k = x_cn X k + 1 := fun k => by
      by_cases e : k = p
      · subst e; rw [un_s]; omega
      · rw [un_n e]
    have hset : (fun k => un_ g p (g p + 1) k = x_cn X k + 1) = (fun k => g k = x_cn X k + 1) := funext (fun k => propext (hg' k))
    -- the new walk state, with V' the points come to
    have mk : ∀ (V' : Nat → Prop) (d' : Nat) (S' : CS), eqW S0 S' → (∀ k, V k → V' k) → V' q → (∀ k, V' k → k < 150 ∧ rch X k) → (∀ k, k < 150 → (¬ V' k → gC_tried S' k = -1) ∧ (V' k → k ≠ p → (V k → gC_tried S' k = gC_tried S k) ∧ (¬ V k → gC_tried S' k = 0))) → gC_tried S' p = nI (g p + 1) → gC_nexts S' = gC_nexts S → gC_reached S' = gC_reached S → gC_order S' = gC_order S → d' = cnt (fun k => V' k ∧ g k ≠ x_cn X k + 1) 150 → (∀ i, i < d' → ∃ k, gC_opn S' i = nI k ∧ V' k ∧ g k ≠ x_cn X k + 1) → (∀ i j, i < d' → j < d' → gC_opn S' i = gC_opn S' j → i = j) → WI X S0 d' (t + 1) S' := by
      intro V' d' S' q1 q2 q3 q4 q5 q6 q7 q8 q9 q10 q11 q12
      refine ⟨q1, un_ g p (g p + 1), V', ?_, q2 0 hV0, q4, fun k hk => ?_, fun k i b hk hi hic hb hbl => ?_, ?_, fun i hi => ?_, q12, ?_, fun i hi => ?_, fun k hk hkg => ?_⟩
      · rw [sm_upd hp, ht]
      · obtain ⟨k1, k2, k3, k4⟩ := hg k hk
        by_cases e : k = p
        · subst e
          rw [un_s]
          exact ⟨by omega, fun z => absurd (q2 k hpV) z, fun _ _ => q6, fun _ z => by omega⟩
        · rw [un_n e]
          obtain ⟨z1, z2⟩ := q5 k hk
          refine ⟨k1, fun z => ⟨z1 z, (k2 (fun y => z (q2 k y))).2⟩, fun z z3 => ?_, fun z z3 => ?_⟩
          · by_cases hVk : V k
            · rw [(z2 z e).1 hVk]; exact k3 hVk z3
            · rw [(z2 z e).2 hVk, (k2 hVk).2]; rfl
          · by_cases hVk : V k
            · rw [(z2 z e).1 hVk]; exact k4 hVk z3
            · have := (k2 hVk).2; omega
      · rw [q7] at hb
        by_cases e : k = p
        · subst e
          rw [un_s] at hi
          by_cases e2 : i = g k
          · subst e2
            have : b = q := n_inj (by omega) (by omega) (hb.symm.trans hqn)
            subst this; exact q3
          · exact q2 b (hcl k i b hk (by omega) hic hb hbl)
        · rw [un_n e] at hi
          exact q2 b (hcl k i b hk hi hic hb hbl)
      · rw [q10]
        exact cnt_congr (fun k hk => by
          by_cases e : k = p
          · subst e; rw [un_s]; exact ⟨fun z => ⟨z.1, by omega⟩, fun z => ⟨z.1, hpg⟩⟩
          · rw [un_n e])
      · obtain ⟨k, z1, z2, z3⟩ := q11 i hi
        exact ⟨k, z1, z2, fun y => z3 ((hg' k).mp y)⟩
      · rw [q8, hrc, hset]
      · rw [hset] at hi
        obtain ⟨k, z1, z2, z3⟩ := ho1 i hi
        exact ⟨k, z1, by rw [q9]; exact z2, (hg' k).mpr z3⟩
      · rw [hset]
        obtain ⟨i, z1, z2⟩ := ho2 k hk ((hg' k).mp hkg)
        exact ⟨i, z1, by rw [q9]; exact z2⟩
    by_cases hVq : V q
    · -- already come to
      have hqt : ¬ upd (gC_tried S) p (nI (g p + 1)) q = -1 := by
        by_cases e : q = p
        · subst e; rw [u_s]; exact n_m1 (by omega)
        · rw [u_n e]
          obtain ⟨k1, k2, k3, k4⟩ := hg q hq
          have hcq := hc4 q hq
          by_cases e2 : g q ≤ x_cn X q
          · rw [k3 hVq e2]; exact n_m1 (by omega)
          · rw [k4 hVq (by omega)]; exact n_m1 (by omega)
      refine brnt hqt (h145 d S2 (mk V d S2 heq2 (fun _ z => z) hVq hV (fun k hk => ⟨fun z => ?_, fun z e => ⟨fun _ => ?_, fun y => absurd z y⟩⟩) ?_ nx2 r2 or2 hd (fun i hi => ?_) (fun i j hi hj e => ?_)))
      · rw [t2, u_n (fun e => z (by rw [e]; exact hpV))]; exact ((hg k hk).2.1 z).1
      · rw [t2, u_n e]
      · rw [t2, u_s]
      · rw [o2]; exact hst i hi
      · rw [o2] at e; exact hsd i j hi hj e
    · have hqp : q ≠ p := fun e => hVq (by rw [e]; exact hpV)
      have hqt : upd (gC_tried S) p (nI (g p + 1)) q = -1 := by rw [u_n hqp]; exact ((hg q hq).2.1 hVq).1
      have hgq : g q = 0 := ((hg q hq).2.1 hVq).2
      have hdn : cnt (fun k => (V k ∨ k = q) ∧ g k ≠ x_cn X k + 1) 150 = d + 1 := by
        rw [hd, ← cnt_add (P := fun k => V k ∧ g k ≠ x_cn X k + 1) hq (fun z => hVq z.1)]
        refine cnt_congr (fun k _ => ⟨fun z => ?_, fun z => ?_⟩)
        · rcases z.1 with y | y
          · exact Or.inl ⟨y, z.2⟩
          · exact Or.inr y
        · rcases z with y | y
          · exact ⟨Or.inl y.1, y.2⟩
          · exact ⟨Or.inr y, by rw [y, hgq]; omega⟩
      have hd149 : d + 1 ≤ 150 := by rw [← hdn]; exact cnt_le _ _
      refine brnf hqt ⟨vp_in_nI (by omega) (by omega), fun S3 e3 => ⟨vp_in_nI (by omega) (by omega), fun S4 e4 x1 ex1 => ?_⟩⟩
      rw [n_cl (by omega)] at e4
      subst ex1
      rw [show nI d + (1 : Int32) = nI (d + 1) from nI_1 d]
      have t4 : gC_tried S4 = upd (upd (gC_tried S) p (nI (g p + 1))) q 0 := by subst e4; subst e3; rw [← t2]; rfl
      have o4 : gC_opn S4 = upd (gC_opn S) d (nI q) := by subst e4; subst e3; rw [← o2]; rfl
      have heq4 : eqW S0 S4 := by subst e4; subst e3; exact heq2
      have r4 : gC_reached S4 = gC_reached S := by subst e4; subst e3; exact r2
      have or4 : gC_order S4 = gC_order S := by subst e4; subst e3; exact or2
      have nx4 : gC_nexts S4 = gC_nexts S := by subst e4; subst e3; exact nx2
      refine h145 (d + 1) S4 (mk (fun k => V k ∨ k = q) (d + 1) S4 heq4 (fun _ z => Or.inl z) (Or.inr rfl) (fun k z => ?_) (fun k hk => ⟨fun z => ?_, fun z e => ⟨fun y => ?_, fun y => ?_⟩⟩) ?_ nx4 r4 or4 hdn.symm (fun i hi => ?_) (fun i j hi hj e => ?_))
      · rcases z with z | rfl
        · exact hV k z
        · exact ⟨hq, hqr⟩
      · rw [t4, u_n (fun e => z (Or.inr e)), u_n (fun e => z (Or.inl (by rw [e]; exact hpV)))]
        exact ((hg k hk).2.1 (fun y => z (Or.inl y))).1
      · rw [t4, u_n (fun e2 => hVq (by rw [← e2]; exact y)), u_n e]
      · rcases z with z | rfl
        · exact absurd z y
        · rw [t4, u_s]
      · rw [t4, u_n (fun e => hqp e.symm), u_s]
      · rw [o4]
        by_cases e : i = d
        · subst e; exact ⟨q, u_s, Or.inr rfl, by rw [hgq]; omega⟩
        · rw [u_n e]
          obtain ⟨k, z1, z2, z3⟩ := hst i (by omega)
          exact ⟨k, z1, Or.inl z2, z3⟩
      · rw [o4] at e
        have hne : ∀ i, i < d → gC_opn S i ≠ nI q := fun i hi z => by
          obtain ⟨k, z1, z2, _⟩ := hst i hi
          have := n_inj (by have := (hV k z2).1; omega) (by omega) (z1.symm.trans z)
          rw [this] at z2; exact hVq z2
        by_cases ei : i = d
        · by_cases ej : j = d
          · omega
          · rw [ei, u_s, u_n ej] at e; exact absurd e.symm (hne j (by omega))
        · rw [u_n ei] at e
          by_cases ej : j = d
          · rw [ej, u_s] at e; exact absurd e (hne i (by omega))
          · rw [u_n ej] at e; exact hsd i j (by omega) (by omega) e
  · -- the point is left
    have hge : g p = x_cn X p := by
      have : ¬ g p < x_cn X p := fun k => c2 ((xl (by omega) (by omega)).mpr k)
      omega
    have hm : cnt (fun k => g k = x_cn X k + 1) 150 < 150 := cnt_lt hp hpg
    rw [hrc, n_cl (by omega)]
    refine ⟨vp_in_nI (by omega) (by omega), fun S6 e6 S7 e7 x1 ex1 => ?_⟩
    subst ex1
    rw [show nI d + (-1 : Int32) = nI (d - 1) from sb_m1 (p := d) (by omega)]
    have r7 : gC_reached S7 = nI (cnt (fun k => g k = x_cn X k + 1) 150 + 1) := by
      subst e7; subst e6
      show gC_reached S + 1 = _
      rw [hrc]; exact nI_1 _
    have or7 : gC_order S7 = upd (gC_order S) (cnt (fun k => g k = x_cn X k + 1) 150) (nI p) := by subst e7; subst e6; rfl
    have t7 : gC_tried S7 = gC_tried S := by subst e7; subst e6; rfl
    have o7 : gC_opn S7 = gC_opn S := by subst e7; subst e6; rfl
    have nx7 : gC_nexts S7 = gC_nexts S := by subst e7; subst e6; rfl
    have heq7 : eqW S0 S7 := by subst e7; subst e6; exact heq
    have hg' : ∀ k, un_ g p (g p + 1) k = x_cn X k + 1 ↔ (g k = x_cn X k + 1 ∨ k = p) := fun k => by
      by_cases e : k = p
      · subst e; rw [un_s]; omega
      · rw [un_n e]; omega
    have hcF : cnt (fun k => un_ g p (g p + 1) k = x_cn X k + 1) 150 = cnt (fun k => g k = x_cn X k + 1) 150 + 1 := by
      rw [← cnt_add (P := fun k => g k = x_cn X k + 1) hp hpg]
      exact cnt_congr (fun k _ => hg' k)
    have hcd : cnt (fun k => V k ∧ un_ g p (g p + 1) k ≠ x_cn X k + 1) 150 = d - 1 := by
      have := cnt_del (P := fun k => V k ∧ g k ≠ x_cn X k + 1) hp ⟨hpV, hpg⟩
      have e2 : cnt (fun k => V k ∧ un_ g p (g p + 1) k ≠ x_cn X k + 1) 150 = cnt (fun k => (V k ∧ g k ≠ x_cn X k + 1) ∧ k ≠ p) 150 := cnt_congr (fun k _ => by
        rw [Ne, hg' k]
        constructor
        · intro z; exact ⟨⟨z.1, fun y => z.2 (Or.inl y)⟩, fun y => z.2 (Or.inr y)⟩
        · intro z; exact ⟨z.1.1, fun y => y.elim z.1.2 z.2⟩)
      omega
    refine h145 (d - 1) S7 ⟨heq7, un_ g p (g p + 1), V, ?_, hV0, hV, fun k hk => ?_, fun k i b hk hi hic hb hbl => ?_, hcd.symm, fun i hi => ?_, fun i j hi hj e => ?_, ?_, fun i hi => ?_, fun k hk hkg => ?_⟩
    · rw [sm_upd hp, ht]
    · obtain ⟨k1, k2, k3, k4⟩ := hg k hk
      rw [t7]
      by_cases e : k = p
      · subst e
        rw [un_s]
        exact ⟨by omega, fun z => absurd hpV z, fun _ z => by omega, fun _ _ => by rw [htr, hge]⟩
      · rw [un_n e]; exact ⟨k1, k2, k3, k4⟩
    · rw [nx7] at hb
      by_cases e : k = p
      · subst e; exact hcl k i b hk (by omega) hic hb hbl
      · rw [un_n e] at hi; exact hcl k i b hk hi hic hb hbl
    · rw [o7]
      obtain ⟨k, z1, z2, z3⟩ := hst i (by omega)
      refine ⟨k, z1, z2, fun y => ?_⟩
      rcases (hg' k).mp y with y | y
      · exact z3 y
      · subst y
        have := hsd i (d - 1) (by omega) (by omega) (z1.trans hpo.symm)
        omega
    · rw [o7] at e; exact hsd i j (by omega) (by omega) e
    · rw [hcF]; exact r7
    · rw [hcF] at hi
      rw [or7]
      by_cases e : i = cnt (fun k => g k = x_cn X k + 1) 150
      · rw [e, u_s]; exact ⟨p, hp, rfl, (hg' p).mpr (Or.inr rfl)⟩
      · rw [u_n e]
        obtain ⟨k, z1, z2, z3⟩ := ho1 i (by omega)
        exact ⟨k, z1, z2, (hg' k).mpr (Or.inl z3)⟩
    · rw [hcF, or7]
      rcases (hg' k).mp hkg with y | y
      · obtain ⟨i, z1, z2⟩ := ho2 k hk y
        exact ⟨i, by omega, by rw [u_n (by omega)]; exact z2⟩
      · subst y; exact ⟨_, Nat.lt_succ_self _, u_s⟩
theorem s_walk {X : XT} {S : CS} (hX : XI X) (hn : RCn S X) {post : CS → Prop} (h : ∀ S', eqW S S' → VW S' X → post S') : wp_X5_walk S post := by
  unfold wp_X5_walk
  intro S1 e1 S2 e2
  have hv0 : vp_in (0 : Int32) 150 := vp_in_nI (n := 0) (N := 150) (by omega) (by omega)
  refine ⟨hv0, fun S3 e3 => ⟨hv0, fun S4 e4 => ?_⟩⟩
  have hc0 : (0 : Int32).toNatClampNeg = 0 := by decide
  rw [hc0] at e3 e4
  have t4 : ∀ k, k < 150 → gC_tried S4 k = if k = 0 then 0 else -1 := fun k hk => by
    have : gC_tried S4 = upd (fl_I 150 (-1) (gC_tried S)) 0 0 := by subst e4; subst e3; subst e2; subst e1; rfl
    rw [this]
    by_cases e : k = 0
    · rw [if_pos e, e, u_s]
    · rw [if_neg e, u_n e]; exact fi_lt hk
  have o4 : gC_opn S4 0 = 0 := by subst e4; subst e3; exact (u_s : upd (gC_opn S2) 0 0 0 = 0)
  have r4 : gC_reached S4 = 0 := by subst e4; subst e3; subst e2; rfl
  have heq : eqW S S4 := by subst e4; subst e3; subst e2; subst e1; exact ⟨rfl, rfl, rfl, rfl, rfl⟩
  have hz : cnt (fun p => (0 : Nat) = x_cn X p + 1) 150 = 0 := by
    have : ∀ n, cnt (fun p => (0 : Nat) = x_cn X p + 1) n = 0 := fun n => by
      induction n with
      | zero => rfl
      | succ n ih => rw [cnt_s_f (P := fun p => (0 : Nat) = x_cn X p + 1) (by omega), ih]
    exact this 150
  have h1 : cnt (fun p => p = 0 ∧ (0 : Nat) ≠ x_cn X p + 1) 150 = 1 := by
    have e := cnt_add (P := fun _ : Nat => False) (p := 0) (n := 150) (by omega) id
    have hz2 : cnt (fun _ : Nat => False) 150 = 0 := by
      have : ∀ n, cnt (fun _ : Nat => False) n = 0 := fun n => by
        induction n with
        | zero => rfl
        | succ n ih => rw [cnt_s_f (P := fun _ : Nat => False) id, ih]
      exact this 150
    rw [hz2] at e
    refine Eq.trans ?_ e
    exact cnt_congr (fun k _ => ⟨fun z => Or.inr z.1, fun z => ⟨z.elim False.elim id, by omega⟩⟩)
  refine s_walk_loop hX hn h (1, 0, S4) ⟨heq, fun _ => 0, fun p => p = 0, (sm_zero 150).symm, rfl, fun p e => ⟨by omega, by rw [e]; exact rch_0⟩, fun p hp => ⟨Nat.zero_le _, fun z => ⟨by rw [t4 p hp, if_neg z], rfl⟩, fun z _ => by rw [t4 p hp, if_pos z]; rfl, fun _ z => by have z : 0 = x_cn X p + 1 := z; omega⟩, fun p i q _ hi => absurd hi (Nat.not_lt_zero _), h1.symm, fun i hi => ?_, fun i j hi hj _ => by omega, ?_, fun i hi => ?_, fun p _ z => by have z : 0 = x_cn X p + 1 := z; omega⟩
  · have : i = 0 := by have : i < 1 := hi; omega
    subst this
    exact ⟨0, o4, rfl, (Nat.succ_ne_zero _).symm⟩
  · rw [hz]; exact r4
  · rw [hz] at hi; omega

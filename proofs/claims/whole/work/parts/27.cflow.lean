theorem cnt_mono {P Q : Nat → Prop} {n : Nat} (h : ∀ k, k < n → P k → Q k) : cnt P n ≤ cnt Q n := by
  induction n with
  | zero => exact Nat.le_refl 0
  | succ n ih =>
    have := ih (fun k hk => h k (by omega))
    by_cases hp : P n
    · rw [cnt_s_t hp, cnt_s_t (h n (by omega) hp)]; omega
    · rw [cnt_s_f hp]
      by_cases hq : Q n
      · rw [cnt_s_t hq]; omega
      · rw [cnt_s_f hq]; omega
theorem cnt_strict {P Q : Nat → Prop} {n i : Nat} (h : ∀ k, k < n → P k → Q k) (hi : i < n) (hq : Q i) (hp : ¬ P i) : cnt P n < cnt Q n := by
  have h1 := cnt_add (P := P) hi hp
  have h2 := cnt_mono (P := fun q => P q ∨ q = i) (Q := Q) (n := n) (fun k hk z => z.elim (h k hk) (fun e => by rw [e]; exact hq))
  omega
theorem sm_dec {g g' : Nat → Nat} {q n : Nat} (hq : q < n) (h1 : ∀ k, k < n → k ≠ q → g' k = g k) (h2 : g' q < g q) : sm g' n < sm g n := by
  have hle : ∀ m, m ≤ n → sm g' m ≤ sm g m := by
    intro m
    induction m with
    | zero => intro _; exact Nat.le_refl 0
    | succ m ih =>
      intro hm
      show sm g' m + g' m ≤ sm g m + g m
      have := ih (by omega)
      by_cases e : m = q
      · subst e; omega
      · rw [h1 m (by omega) e]; omega
  have : ∀ m, q < m → m ≤ n → sm g' m < sm g m := by
    intro m
    induction m with
    | zero => intro h; omega
    | succ m ih =>
      intro hqm hm
      show sm g' m + g' m < sm g m + g m
      by_cases e : m = q
      · subst e; have := hle m (by omega); omega
      · rw [h1 m (by omega) e]
        have := ih (by omega) (by omega)
        omega
  exact this n hq (Nat.le_refl n)
/-- how many bits a word has -/
noncomputable def pc (w : Int64) : Nat := cnt (fun i => lb w i = true) 64
theorem pc_le (w : Int64) : pc w ≤ 64 := cnt_le _ _
theorem pc_and (x y : Int64) : pc (x &&& y) ≤ pc x := cnt_mono (fun k _ h => by rw [lb_and, Bool.and_eq_true] at h; exact h.1)
theorem pc_or (x y : Int64) : pc x ≤ pc (x ||| y) := cnt_mono (fun k _ h => by rw [lb_or, h]; rfl)
theorem pc_and_lt {x y : Int64} (h : ¬ x &&& (y ^^^ (-1)) = 0) : pc (x &&& y) < pc x := by
  obtain ⟨i, hi, e⟩ := lb_nz.mp h
  rw [lb_and, lb_not _ hi, Bool.and_eq_true] at e
  refine cnt_strict (fun k _ h => by rw [lb_and, Bool.and_eq_true] at h; exact h.1) hi e.1 (fun k => ?_)
  rw [lb_and, Bool.and_eq_true] at k
  rw [k.2] at e
  simp at e
theorem pc_or_lt {x y : Int64} (h : ¬ y &&& (x ^^^ (-1)) = 0) : pc x < pc (x ||| y) := by
  obtain ⟨i, hi, e⟩ := lb_nz.mp h
  rw [lb_and, lb_not _ hi, Bool.and_eq_true] at e
  refine cnt_strict (fun k _ h => by rw [lb_or, h]; rfl) hi (by rw [lb_or, e.1]; simp) (fun k => ?_)
  rw [k] at e
  simp at e
theorem sub_z {x y : Int64} (h : x &&& (y ^^^ (-1)) = 0) {i : Nat} (hi : i < 64) (hx : lb x i = true) : lb y i = true := by
  have := lb_z.mp h i hi
  rw [lb_and, lb_not _ hi, hx] at this
  cases e : lb y i
  · rw [e] at this; cases this
  · rfl
/-! the flow of leaves -/
def eqE (S S' : CS) : Prop := S'.1 = S.1 ∧ S'.2.1 = S.2.1 ∧ S'.2.2.1 = S.2.2.1 ∧ S'.2.2.2.2 = S.2.2.2.2
theorem eqE_n {S S' : CS} (h : eqE S S') : gC_nexts S' = gC_nexts S ∧ gC_ncnt S' = gC_ncnt S ∧ gC_order S' = gC_order S ∧ gC_reached S' = gC_reached S ∧ gC_tried S' = gC_tried S := by
  unfold gC_nexts gC_ncnt gC_order gC_reached gC_tried; rw [h.2.2.1]; exact ⟨rfl, rfl, rfl, rfl, rfl⟩
theorem eqE_b {S S' : CS} {X : XT} (h : eqE S S') (q : RCb S X) : RCb S' X := ⟨RCv_eq h.1 q.1, RCa_eq h.2.1 q.2.1, RCd_eq h.2.1 q.2.2.1, RCn_eq (eqE_n h).1 (eqE_n h).2.1 q.2.2.2⟩
theorem eqE_w {S S' : CS} {X : XT} (h : eqE S S') (q : VW S X) : VW S' X := by
  obtain ⟨h1, h2, h3, h4, h5⟩ := eqE_n h
  unfold VW at *
  rw [h3, h4, h5]; exact q
noncomputable def muE (S : CS) : Nat := sm (fun q => pc (gC_onAll S q) + (64 - pc (gC_onSome S q))) 150
theorem tk_gv {X : XT} {p v f : Nat} (hk : actOk X p) (h : tk X p v f) : ¬ gv X p v f := by
  rintro (q | q)
  · rcases h.2 with k | k | k
    · have := q.1; omega
    · have := q.1; omega
    · have e := h.1
      have e2 := q.2
      rcases hk with z | z | z | z | z | z
      · omega
      · omega
      · omega
      · omega
      · omega
      · have := z.2.2.2.2.2.1; omega
  · rcases h.2 with k | k | k <;> omega
/-- every bit that is gone is lost on a way, every bit that came was had -/
def sndE (S : CS) (X : XT) : Prop := ∀ q v f, q < 150 → v < x_nv X → f < x_lv X v → (lb (gC_onAll S q) (4 * v + f) = false → lst X v f q) ∧ (lb (gC_onSome S q) (4 * v + f) = true → hd X v f q)
def begE (S : CS) (X : XT) : Prop := ∀ v f, v < x_nv X → f < x_lv X v → (x_af X v = false → lb (gC_onAll S 0) (4 * v + f) = false) ∧ (x_af X v = true → lb (gC_onSome S 0) (4 * v + f) = true)
/-- p has nothing left to hand on -/
def cloE (S : CS) (p : Nat) (X : XT) : Prop := ∀ q, x_ed X p q = true → gC_onAll S q &&& (((gC_onAll S p &&& (gC_taken S p ^^^ (-1))) ||| gC_given S p) ^^^ (-1)) = 0 ∧ ((gC_onSome S p &&& (gC_taken S p ^^^ (-1))) ||| gC_given S p) &&& (gC_onSome S q ^^^ (-1)) = 0
theorem s_takenAt {S : CS} {p : Nat} (hp : p < 150) {post : Int64 → CS → Prop} (h : post (gC_taken S p) S) : wp_X0_takenAt S (nI p) post := by
  unfold wp_X0_takenAt; rw [n_cl (by omega)]; exact ⟨vp_in_nI (by omega) (by omega), h⟩
theorem s_givenAt {S : CS} {p : Nat} (hp : p < 150) {post : Int64 → CS → Prop} (h : post (gC_given S p) S) : wp_X0_givenAt S (nI p) post := by
  unfold wp_X0_givenAt; rw [n_cl (by omega)]; exact ⟨vp_in_nI (by omega) (by omega), h⟩
theorem s_nextCount {S : CS} {p : Nat} (hp : p < 150) {post : Int32 → CS → Prop} (h : post (gC_ncnt S p) S) : wp_X5_nextCount S (nI p) post := by
  unfold wp_X5_nextCount; rw [n_cl (by omega)]; exact ⟨vp_in_nI (by omega) (by omega), h⟩
/-- the loop over the points next to p -/
theorem s_handOnE {X : XT} {S : CS} (hX : XI X) (hb : RCb S X) {p : Nat} (hp : p < 150) (hr : rch X p) (hs : sndE S X) (hg : begE S X) {post : Int32 → CS → Prop} (h : ∀ (r : Int32) S', eqE S S' → isb r → sndE S' X → begE S' X → (r = 0 → S' = S ∧ cloE S p X) → (¬ r = 0 → muE S' < muE S) → post r S') : wp_X1_handOn S (nI p) post := by
  have hn := hX.1
  have hc := hX.2.2.2.2.1 p hp
  have hvp : vp_in (nI p) 150 := vp_in_nI (by omega) (by omega)
  have hl4 : ∀ v, v < x_nv X → x_lv X v ≤ 4 := fun v hv => (hX.2.1 v hv).2.2.1
  obtain ⟨d1, d2, d3, -⟩ := hb.2.2.1 p hp
  obtain ⟨m1, m2, m3, m4⟩ := hb.2.2.2 p hp
  unfold wp_X1_handOn
  rw [n_cl (by omega)]
  refine ⟨hvp, s_takenAt hp (s_givenAt hp (fun x2 e2 => ⟨hvp, s_takenAt hp (s_givenAt hp (fun x4 e4 => ?_))⟩))⟩
  -- what the words that go on say
  have hA : ∀ q v f, x_ed X p q = true → v < x_nv X → f < x_lv X v → lb x2 (4 * v + f) = false → lst X v f q := by
    intro q v f hq hv hf e
    have hi : 4 * v + f < 64 := by have := hl4 v hv; omega
    rw [e2, lb_or, lb_and, lb_not _ hi, Bool.or_eq_false_iff] at e
    have hgv : ¬ gv X p v f := fun k => by rw [(d2 v f hv hf).1.mpr k] at e; cases e.2
    cases et : lb (gC_taken S p) (4 * v + f)
    · rw [et] at e
      have ea : lb (gC_onAll S p) (4 * v + f) = false := by
        cases z : lb (gC_onAll S p) (4 * v + f)
        · rfl
        · rw [z] at e; cases e.1
      have hl := (hs p v f hp hv hf).1 ea
      exact fun C h0 h1 h2 => h2 p q (hl C h0 h1 h2) hgv hq
    · have htk := (d2 v f hv hf).2.mp et
      exact fun C h0 h1 h2 => h1 p q hr htk hq
  have hS : ∀ q v f, x_ed X p q = true → v < x_nv X → f < x_lv X v → lb x4 (4 * v + f) = true → hd X v f q := by
    intro q v f hq hv hf e
    have hi : 4 * v + f < 64 := by have := hl4 v hv; omega
    rw [e4, lb_or, lb_and, lb_not _ hi, Bool.or_eq_true] at e
    cases eg : lb (gC_given S p) (4 * v + f)
    · rw [eg, Bool.and_eq_true] at e
      have e := e.resolve_right (by decide)
      have htk : ¬ tk X p v f := fun k => by rw [(d2 v f hv hf).2.mpr k] at e; cases e.2
      have hh := (hs p v f hp hv hf).2 e.1
      exact fun C h0 h1 h2 => h2 p q (hh C h0 h1 h2) htk hq
    · have hgv := (d2 v f hv hf).1.mp eg
      exact fun C h0 h1 h2 => h1 p q hr hgv hq
  have hclo : (∀ j, j < x_cn X p → ∀ q, gC_nexts S (4 * p + j) = nI q → q < 150 → gC_onAll S q &&& (x2 ^^^ (-1)) = 0 ∧ x4 &&& (gC_onSome S q ^^^ (-1)) = 0) → cloE S p X := fun hh q hq => by
    obtain ⟨j, hj, e⟩ := m3 q hq
    have := hh j hj q e (hX.2.2.2.1 p q hq).2
    rw [e2, e4] at this
    exact this
  have key : ∀ (k i : Nat) (x6 : Int32) (S1 : CS), i + k = x_cn X p → eqE S S1 → isb x6 → sndE S1 X → begE S1 X → (x6 = 0 → S1 = S ∧ ∀ j, j < i → ∀ q, gC_nexts S (4 * p + j) = nI q → q < 150 → gC_onAll S q &&& (x2 ^^^ (-1)) = 0 ∧ x4 &&& (gC_onSome S q ^^^ (-1)) = 0) → (¬ x6 = 0 → muE S1 < muE S) → wp_X1_handOn_65 post (k + 1) (nI p) x2 x4 x6 (nI i) S1 := by
    intro k
    induction k with
    | zero =>
      intro i x6 S1 hi heq h6 hs1 hg1 h60 h61
      show ws_X1_handOn_65 _ post _ _ _ _ _ S1
      unfold ws_X1_handOn_65
      refine s_nextCount hp ?_
      rw [(eqE_n heq).2.1, m1]
      refine brt ((xc (by omega) (by omega)).mpr (by omega)) ⟨h6, h x6 S1 heq h6 hs1 hg1 (fun z => ⟨(h60 z).1, hclo (fun j hj => (h60 z).2 j (by omega))⟩) h61⟩
    | succ k ih =>
      intro i x6 S1 hi heq h6 hs1 hg1 h60 h61
      show ws_X1_handOn_65 _ post _ _ _ _ _ S1
      unfold ws_X1_handOn_65
      refine s_nextCount hp ?_
      rw [(eqE_n heq).2.1, m1]
      refine brf (fun q => absurd ((xc (by omega) (by omega)).mp q) (by omega)) (s_nextOf hp (by omega) ?_)
      rw [(eqE_n heq).1]
      obtain ⟨q, hq, hqn, hqe⟩ := m2 i (by omega)
      rw [hqn, n_cl (by omega)]
      have hvq : vp_in (nI q) 150 := vp_in_nI (by omega) (by omega)
      have h153 : ∀ (x6' : Int32) S2, eqE S S2 → isb x6' → sndE S2 X → begE S2 X → (x6' = 0 → S2 = S ∧ ∀ j, j < i + 1 → ∀ q, gC_nexts S (4 * p + j) = nI q → q < 150 → gC_onAll S q &&& (x2 ^^^ (-1)) = 0 ∧ x4 &&& (gC_onSome S q ^^^ (-1)) = 0) → (¬ x6' = 0 → muE S2 < muE S) → wp_X1_handOn_153 (wp_X1_handOn_65 post (k + 1)) post (nI p) x2 x4 x6' (nI i) S2 := by
        intro x6' S2 a1 a2 a3 a4 a5 a6
        unfold wp_X1_handOn_153
        intro x7 e7
        subst e7
        rw [show nI i + (1 : Int32) = nI (i + 1) from nI_1 i]
        exact ih (i + 1) x6' S2 (by omega) a1 a2 a3 a4 a5 a6
      have h127 : (¬ gC_onAll S1 q &&& (x2 ^^^ (-1)) = 0 ∨ ¬ x4 &&& (gC_onSome S1 q ^^^ (-1)) = 0) → wp_X1_handOn_127 (fun x1 x2 x4 x6 x7 S => wp_X1_handOn_153 (wp_X1_handOn_65 post (k + 1)) post x1 x2 x4 x6 x7 S) post (nI p) x2 x4 (nI i) (nI q) S1 := by
        intro hne
        unfold wp_X1_handOn_127
        rw [n_cl (by omega)]
        refine ⟨hvq, hvq, fun S2 f2 => ⟨hvq, hvq, fun S3 f3 => ?_⟩⟩
        have gs2 : gC_onSome S2 = gC_onSome S1 := by subst f2; rfl
        rw [gs2] at f3
        have ga : gC_onAll S3 = vp_updL (gC_onAll S1) q (gC_onAll S1 q &&& x2) := by subst f3; subst f2; rfl
        have gs : gC_onSome S3 = vp_updL (gC_onSome S1) q (gC_onSome S1 q ||| x4) := by subst f3; rfl
        have heq3 : eqE S S3 := by subst f3; subst f2; exact heq
        refine h153 1 S3 heq3 (Or.inr rfl) (fun b v f hb2 hv hf => ?_) (fun v f hv hf => ?_) (fun z => absurd z (by decide)) (fun _ => ?_)
        · rw [ga, gs]
          by_cases e : b = q
          · subst e
            rw [ul_s, ul_s, lb_and, lb_or]
            have s1 := hs1 b v f hb2 hv hf
            constructor
            · intro z
              cases ez : lb x2 (4 * v + f)
              · exact hA b v f hqe hv hf ez
              · rw [ez, Bool.and_true] at z; exact s1.1 z
            · intro z
              rw [Bool.or_eq_true] at z
              rcases z with z | z
              · exact s1.2 z
              · exact hS b v f hqe hv hf z
          · rw [ul_n e, ul_n e]; exact hs1 b v f hb2 hv hf
        · have g0 := hg1 v f hv hf
          rw [ga, gs]
          by_cases e : 0 = q
          · rw [← e, ul_s, ul_s, lb_and, lb_or]
            exact ⟨fun z => by rw [g0.1 z]; rfl, fun z => by rw [g0.2 z]; rfl⟩
          · rw [ul_n e, ul_n e]; exact g0
        · have hlt : muE S3 < muE S1 := by
            unfold muE
            refine sm_dec hq (fun b _ e => by rw [ga, gs, ul_n e, ul_n e]) ?_
            rw [ga, gs, ul_s, ul_s]
            have p1 := pc_and (gC_onAll S1 q) x2
            have p2 := pc_or (gC_onSome S1 q) x4
            have p3 := pc_le (gC_onSome S1 q ||| x4)
            rcases hne with z | z
            · have := pc_and_lt z; omega
            · have := pc_or_lt z; omega
          by_cases z : x6 = 0
          · rw [(h60 z).1] at hlt; exact hlt
          · exact Nat.lt_trans hlt (h61 z)
      refine ⟨hvq, ⟨fun c => h127 (Or.inl (fun z => c (cmp0.mpr z))), fun c => ⟨hvq, ⟨fun c2 => ?_, fun c2 => h127 (Or.inr (fun z => c2 (cmp0.mpr z)))⟩⟩⟩⟩
      refine h153 x6 S1 heq h6 hs1 hg1 (fun z => ⟨(h60 z).1, fun j hj b hb2 hbl => ?_⟩) h61
      by_cases e : j = i
      · subst e
        have : b = q := n_inj (by omega) (by omega) (hb2.symm.trans hqn)
        subst this
        have e0 := (h60 z).1
        rw [e0] at c c2
        exact ⟨cmp0.mp c, cmp0.mp c2⟩
      · exact (h60 z).2 j (by omega) b hb2 hbl
  exact ⟨_, key (x_cn X p) 0 0 S (by omega) ⟨rfl, rfl, rfl, rfl⟩ (Or.inl rfl) hs hg (fun _ => ⟨rfl, fun j hj => by omega⟩) (fun z => absurd rfl z)⟩
/-- what the flow has reached when nothing is left to hand on -/
theorem flow_end {X : XT} {S : CS} (hX : XI X) (hb : RCb S X) (hs : sndE S X) (hg : begE S X) (hc : ∀ p, rch X p → cloE S p X) : VE S X := by
  intro q hq hr v f hv hf
  have hl4 := (hX.2.1 v hv).2.2.1
  have hn := hX.1
  have hi : 4 * v + f < 64 := by omega
  have hL : lst X v f q → lb (gC_onAll S q) (4 * v + f) = false := fun hl => by
    refine (hl (fun q => rch X q ∧ lb (gC_onAll S q) (4 * v + f) = false) (fun z => ⟨rch_0, (hg v f hv hf).1 z⟩) (fun p q hp htk he => ⟨rch_s hp he, ?_⟩) (fun p q hp hgv he => ⟨rch_s hp.1 he, ?_⟩)).2
    · have hp1 := rch_lt hX hp
      have d2 := (hb.2.2.1 p hp1).2.1 v f hv hf
      have := (hc p hp q he).1
      cases e : lb (gC_onAll S q) (4 * v + f)
      · rfl
      · have z := sub_z this hi e
        rw [lb_or, lb_and, lb_not _ hi, d2.2.mpr htk, Bool.or_eq_true] at z
        rcases z with z | z
        · simp at z
        · exact absurd (d2.1.mp z) (tk_gv (hX.2.2.1 p hp1) htk)
    · have hp1 := rch_lt hX hp.1
      have d2 := (hb.2.2.1 p hp1).2.1 v f hv hf
      have := (hc p hp.1 q he).1
      cases e : lb (gC_onAll S q) (4 * v + f)
      · rfl
      · have z := sub_z this hi e
        rw [lb_or, lb_and, hp.2, Bool.or_eq_true] at z
        rcases z with z | z
        · cases z
        · exact absurd (d2.1.mp z) hgv
  have hH : hd X v f q → lb (gC_onSome S q) (4 * v + f) = true := fun hh => by
    refine (hh (fun q => rch X q ∧ lb (gC_onSome S q) (4 * v + f) = true) (fun z => ⟨rch_0, (hg v f hv hf).2 z⟩) (fun p q hp hgv he => ⟨rch_s hp he, ?_⟩) (fun p q hp htk he => ⟨rch_s hp.1 he, ?_⟩)).2
    · have hp1 := rch_lt hX hp
      have d2 := (hb.2.2.1 p hp1).2.1 v f hv hf
      refine sub_z (hc p hp q he).2 hi ?_
      rw [lb_or, d2.1.mpr hgv, Bool.or_true]
    · have hp1 := rch_lt hX hp.1
      have d2 := (hb.2.2.1 p hp1).2.1 v f hv hf
      refine sub_z (hc p hp.1 q he).2 hi ?_
      rw [lb_or, lb_and, lb_not _ hi, hp.2]
      have : lb (gC_taken S p) (4 * v + f) = false := by
        cases e : lb (gC_taken S p) (4 * v + f)
        · rfl
        · exact absurd (d2.2.mp e) htk
      rw [this]; rfl
  have s1 := hs q v f hq hv hf
  refine ⟨⟨fun z k => (by rw [hL k] at z; cases z), fun z => ?_⟩, ⟨s1.2, hH⟩⟩
  cases e : lb (gC_onAll S q) (4 * v + f)
  · exact absurd (s1.1 e) z
  · rfl

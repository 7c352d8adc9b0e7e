theorem cnt_surj {P : Nat → Prop} {n i : Nat} (h : i < cnt P n) : ∃ k, k < n ∧ P k ∧ cnt P k = i := by
  induction n with
  | zero => exact absurd h (Nat.not_lt_zero _)
  | succ n ih =>
    by_cases hp : P n
    · rw [cnt_s_t hp] at h
      by_cases e : i = cnt P n
      · exact ⟨n, by omega, hp, e.symm⟩
      · obtain ⟨k, h1, h2⟩ := ih (by omega)
        exact ⟨k, by omega, h2⟩
    · rw [cnt_s_f hp] at h
      obtain ⟨k, h1, h2⟩ := ih h
      exact ⟨k, by omega, h2⟩
/-- a search for the least number, by a loop that counts up -/
theorem lea_step {P : Nat → Prop} {n i : Nat} (hi : i < n) (hb : ∀ j, j < i → ¬ P j) (hp : P i) : lea P n = nI i := lea_eq hi hp hb
theorem lb_low {w : Int64} {k : Nat} (hk : lb w k = true) (hl : ∀ j, j < k → lb w j = false) (hk64 : k < 64) {i : Nat} (hi : i < 64) : lb (w &&& (-w)) i = decide (i = k) := by
  rw [lb_and]
  have hneg : lb (-w) i = (lb w i ^^ (decide (i < 64) && decide (∃ j, j < i ∧ lb w j = true))) := by
    unfold lb
    rw [Int64.toBitVec_neg, BitVec.getLsbD_neg]
  rw [hneg, decide_eq_true hi, Bool.true_and]
  rcases Nat.lt_trichotomy i k with h | h | h
  · rw [hl i h, decide_eq_false (by omega : ¬ i = k)]; rfl
  · subst h
    rw [hk, decide_eq_true rfl, decide_eq_false (fun ⟨j, j1, j2⟩ => by rw [hl j j1] at j2; cases j2)]; rfl
  · rw [decide_eq_true (⟨k, h, hk⟩ : ∃ j, j < i ∧ lb w j = true), decide_eq_false (by omega : ¬ i = k)]
    cases lb w i <;> rfl
theorem sm63 : ∀ k, k < 64 → (((nI k).toInt64 &&& 63).toBitVec.smod 64).toNat = k := by decide +kernel
theorem lb_shr {w : Int64} {k : Nat} (hk : k < 64) : lg_cmp ((w >>> ((nI k).toInt64 &&& 63)) &&& 1) 0 = 0 ↔ lb w k = false := by
  have h0 : lb (w >>> ((nI k).toInt64 &&& 63)) 0 = lb w k := by
    unfold lb
    rw [Int64.toBitVec_shiftRight, BitVec.sshiftRight', BitVec.getLsbD_sshiftRight]
    have := sm63 k hk
    rw [this]
    simp [hk]
  have h1 : ∀ i, lb (1 : Int64) i = decide (i = 0) := fun i => by
    have := lb_one (k := 0) (by omega) i
    have e : (1 : Int64) <<< ((nI 0).toInt64 &&& 63) = 1 := by decide
    rw [e] at this; exact this
  rw [cmp0, lb_z]
  constructor
  · intro z
    have := z 0 (by omega)
    rw [lb_and, h0, h1, decide_eq_true rfl, Bool.and_true] at this
    exact this
  · intro z i hi
    rw [lb_and, h1]
    by_cases e : i = 0
    · subst e; rw [h0, z]; rfl
    · rw [decide_eq_false e, Bool.and_false]
def obt : Nat → Nat → Nat → Prop
  | 0, _, _ => True
  | k + 1, a, b => a = 0 ∨ b = 0 ∨ (a % 8 = b % 8 ∧ obt k (a / 8) (b / 8))
theorem obt_prf : ∀ (k a b : Nat), a < 8 ^ k → b < 8 ^ k → (obt k a b ↔ prf k a b ∨ prf k b a) := by
  intro k
  induction k with
  | zero =>
    intro a b ha hb
    have e1 : a = 0 := by have : 8 ^ 0 = 1 := rfl; omega
    have e2 : b = 0 := by have : 8 ^ 0 = 1 := rfl; omega
    exact ⟨fun _ => Or.inl e2, fun _ => trivial⟩
  | succ k ih =>
    intro a b ha hb
    have h8 : 8 ^ (k + 1) = 8 * 8 ^ k := by rw [Nat.pow_succ, Nat.mul_comm]
    have hi := ih (a / 8) (b / 8) (by omega) (by omega)
    show (a = 0 ∨ b = 0 ∨ (a % 8 = b % 8 ∧ obt k (a / 8) (b / 8))) ↔ ((b = 0 ∨ (a % 8 = b % 8 ∧ prf k (a / 8) (b / 8))) ∨ (a = 0 ∨ (b % 8 = a % 8 ∧ prf k (b / 8) (a / 8))))
    rw [hi]
    constructor
    · rintro (h | h | ⟨h1, h2 | h2⟩)
      · exact Or.inr (Or.inl h)
      · exact Or.inl (Or.inl h)
      · exact Or.inl (Or.inr ⟨h1, h2⟩)
      · exact Or.inr (Or.inr ⟨h1.symm, h2⟩)
    · rintro ((h | ⟨h1, h2⟩) | (h | ⟨h1, h2⟩))
      · exact Or.inr (Or.inl h)
      · exact Or.inr (Or.inr ⟨h1, Or.inl h2⟩)
      · exact Or.inl h
      · exact Or.inr (Or.inr ⟨h1.symm, Or.inr h2⟩)
section CFA
variable {S : CS} {X : XT}
theorem s_obt {a b : Nat} (ha : a < 4096) (hb : b < 4096) {post : Int32 → CS → Prop} (h : post (bi (prf 4 a b ∨ prf 4 b a)) S) : wp_X3_oneBeginsTheOther S (nI a) (nI b) post := by
  rw [← bi_e (obt_prf 4 a b (by omega) (by omega))] at h
  have key : ∀ (k i a b : Nat), i + k = 4 → a < 4096 → b < 4096 → post (bi (obt k a b)) S → wp_X3_oneBeginsTheOther_7 post (k + 1) (nI a) (nI b) (nI i) S := by
    intro k
    induction k with
    | zero =>
      intro i a b hi ha hb h
      show ws_X3_oneBeginsTheOther_7 _ post _ _ _ S
      unfold ws_X3_oneBeginsTheOther_7
      exact brt ((xc (a := 4) (b := i) (by omega) (by omega)).mpr (by omega)) (lf1 h trivial)
    | succ k ih =>
      intro i a b hi ha hb h
      show ws_X3_oneBeginsTheOther_7 _ post _ _ _ S
      unfold ws_X3_oneBeginsTheOther_7
      refine brf (fun q => absurd ((xc (a := 4) (b := i) (by omega) (by omega)).mp q) (by omega)) ?_
      refine br (fun c => lf1 h (Or.inl ((xe (a := a) (b := 0) (by omega) (by omega)).mp c))) (fun ca => ?_)
      refine br (fun c => lf1 h (Or.inr (Or.inl ((xe (a := b) (b := 0) (by omega) (by omega)).mp c)))) (fun cb => ?_)
      have ha0 : a ≠ 0 := fun e => ca (by rw [e]; rfl)
      have hb0 : b ≠ 0 := fun e => cb (by rw [e]; rfl)
      unfold wp_X3_firstDigit wp_X3_behindFirst
      rw [n_d8 (by omega), n_d8 (by omega), n_s3 (by omega), n_s3 (by omega)]
      refine br (fun c => ?_) (fun c => lf0 h ?_)
      · have e := (xe (by omega) (by omega)).mp c
        intro x4 e4
        subst e4
        rw [show nI i + (1 : Int32) = nI (i + 1) from nI_1 i]
        refine ih (i + 1) (a / 8) (b / 8) (by omega) (by omega) (by omega) ?_
        rw [bi_e (show obt (k + 1) a b ↔ obt k (a / 8) (b / 8) from ⟨fun q => by
          rcases q with q | q | q
          · exact absurd q ha0
          · exact absurd q hb0
          · exact q.2, fun q => Or.inr (Or.inr ⟨e, q⟩)⟩)] at h
        exact h
      · rintro (q | q | q)
        · exact ha0 q
        · exact hb0 q
        · exact c (by rw [q.1])
  exact ⟨5, key 4 0 a b rfl ha hb h⟩
theorem s_canClash (hX : XI X) (hb : RCb S X) {p : Nat} (hp : p < 150) {post : Int32 → CS → Prop} (h : post (bi (x_ac X p ≠ 0 ∧ x_ac X p ≠ 5 ∧ ¬ (x_ac X p = 6 ∧ x_so X (x_of X p) ≠ 0))) S) : wp_X0_canClash S (nI p) post := by
  have hn := hX.1
  have hk := hX.2.2.1 p hp
  have ha8 := ok_ac hk
  have hvp : vp_in (nI p) 150 := vp_in_nI (by omega) (by omega)
  unfold wp_X0_canClash
  rw [n_cl (by omega), (hb.2.1.1 p hp).1]
  refine ⟨hvp, brn (fun c => ⟨hvp, s_onPlace ha8 (bi_brn (fun c2 => lf1 h ?_) (fun c2 => ⟨hvp, brn (fun c3 => lf0 h ?_) (fun c3 => lf1 h ?_)⟩))⟩) (fun c => ⟨hvp, ?_⟩)⟩
  · have n6 : x_ac X p ≠ 6 := fun e => c (by rw [e]; rfl)
    unfold onp at c2; omega
  · have n6 : x_ac X p ≠ 6 := fun e => c (by rw [e]; rfl)
    rw [(hb.2.1.1 p hp).1] at c3
    have n8 : x_ac X p ≠ 8 := fun e => c3 (by rw [e]; rfl)
    unfold onp at c2; omega
  · rw [(hb.2.1.1 p hp).1] at c3
    have e8 := (xe (a := x_ac X p) (b := 8) (by omega) (by omega)).mp c3
    omega
  · have e6 := (xe (a := x_ac X p) (b := 6) (by omega) (by omega)).mp c
    have ho := ok_of hk (by omega)
    rw [((hb.2.1.1 p hp).2.1 (by omega)).1]
    refine s_isRef hX hb.1 (bi_brn (fun c2 => lf0 h ?_) (fun c2 => lf1 h ⟨by omega, by omega, fun q => c2 ⟨_, ho, rfl, q.2⟩⟩))
    obtain ⟨v2, q1, q2, q3⟩ := c2
    have := n_inj (by omega) (by omega) q2
    subst this
    exact fun q => q.2.2 ⟨e6, q3⟩
theorem s_onlyLooks (hX : XI X) (hb : RCb S X) {p : Nat} (hp : p < 150) (h0 : x_ac X p ≠ 0) {post : Int32 → CS → Prop} (h : post (bi (soft X p)) S) : wp_X0_onlyLooks S (nI p) post := by
  have hn := hX.1
  have hk := hX.2.2.1 p hp
  have ha8 := ok_ac hk
  have ho := ok_of hk h0
  have hvp : vp_in (nI p) 150 := vp_in_nI (by omega) (by omega)
  have h34 : x_ac X p ≠ 1 → ¬ (x_ac X p = 7 ∧ x_so X (x_to X p) = 1) → wp_X0_onlyLooks_34 post (nI p) (nI (x_ac X p)) S := fun n1 n7 => by
    unfold wp_X0_onlyLooks_34
    rw [n_cl (by omega)]
    refine brn (fun c => lf0 h ?_) (fun c => ⟨hvp, ?_⟩)
    · have n8 : x_ac X p ≠ 8 := fun e => c (by rw [e]; rfl)
      rintro (q | q | q)
      · exact n1 q
      · exact n7 q
      · exact n8 q.1
    · have e8 := (xe (a := x_ac X p) (b := 8) (by omega) (by omega)).mp c
      rw [((hb.2.1.1 p hp).2.1 h0).1]
      refine s_isSh hX hb.1 (bi_br (fun c2 => lf1 h ?_) (fun c2 => lf0 h ?_))
      · obtain ⟨v2, q1, q2, q3⟩ := c2
        have := n_inj (by omega) (by omega) q2
        subst this
        exact Or.inr (Or.inr ⟨e8, q3⟩)
      · rintro (q | q | q)
        · exact n1 q
        · exact n7 q
        · exact c2 ⟨_, ho, rfl, q.2⟩
  unfold wp_X0_onlyLooks
  rw [n_cl (by omega), (hb.2.1.1 p hp).1]
  refine ⟨hvp, fun x2 e2 => ?_⟩
  subst e2
  refine br (fun c => lf1 h (Or.inl ((xe (a := x_ac X p) (b := 1) (by omega) (by omega)).mp c))) (fun c => brn (fun c7 => h34 (fun e => c (by rw [e]; rfl)) (fun q => c7 (by rw [q.1]; rfl))) (fun c7 => ⟨hvp, ?_⟩))
  have e7 := (xe (a := x_ac X p) (b := 7) (by omega) (by omega)).mp c7
  have ht := ok_to hk (Or.inl e7)
  rw [(hb.2.1.1 p hp).2.2 (Or.inl e7)]
  refine s_isSh hX hb.1 (bi_brn (fun c2 => lf1 h ?_) (fun c2 => h34 (by omega) (fun q => c2 ⟨_, ht.1, rfl, q.2⟩)))
  obtain ⟨v2, q1, q2, q3⟩ := c2
  have := n_inj (by omega) (by omega) q2
  subst this
  exact Or.inr (Or.inl ⟨e7, q3⟩)
theorem s_leastClash (hX : XI X) (hR : RC S X) (hl1 : ¬ gC_lK S = 0) {p : Nat} (hp : p < 150) {post : Int32 → CS → Prop} (h : post (lea (fun l => cla X l p) 150) S) : wp_X2_leastClash S (nI p) post := by
  have hn := hX.1
  have h60 := ml_60 hX
  have hb := hR.1
  obtain ⟨hN, hH, hU⟩ := (hR.2.2.2 hl1).2
  have hk := hX.2.2.1 p hp
  have hno : (∀ l, ¬ cla X l p) → post (-1) S := fun z => by rw [lea_no (fun l _ => z l)] at h; exact h
  unfold wp_X2_leastClash
  refine s_canClash hX hb hp (bi_brn (fun c => ?_) (fun c => hno (fun l q => c ⟨q.2.2.2.1, q.2.2.2.2.1, q.2.2.2.2.2.2.1⟩)))
  obtain ⟨h0, h5, h6⟩ := c
  have ho := ok_of hk h0
  have hpa := ok_pa hk h0
  have h51 : ∀ w : Int64, (∀ i, i < 64 → (lb w i = true ↔ ∃ l, l < 150 ∧ ml X l ∧ i = cnt (ml X) l ∧ frc X l p ∧ x_of X l = x_of X p ∧ (x_so X (x_to X l) = 2 ∨ ¬ soft X p))) → wp_X2_leastClash_51 post (nI p) w S := by
    intro w hw
    unfold wp_X2_leastClash_51
    have hcla : ∀ l, l < 150 → ml X l → (cla X l p ↔ (lb w (cnt (ml X) l) = true ∧ (prf 4 (x_pa X l) (x_pa X p) ∨ prf 4 (x_pa X p) (x_pa X l)))) := fun l hl hm => by
      have hlt := cnt_lt_of hl hm
      rw [hw (cnt (ml X) l) (by omega)]
      constructor
      · intro q
        exact ⟨⟨l, hl, hm, rfl, q.2.2.1, q.2.2.2.2.2.1.symm, q.2.2.2.2.2.2.2.1⟩, q.2.2.2.2.2.2.2.2.symm⟩
      · rintro ⟨⟨l2, q1, q2, q3, q4, q5, q6⟩, q7⟩
        have e := cnt_inj hm q2 q3
        subst e
        exact ⟨hl, hm, q4, h0, h5, q5.symm, h6, q6, q7.symm⟩
    have key : ∀ (k i : Nat), i + k = cnt (ml X) 150 → (∀ l, cnt (ml X) l < i → ¬ cla X l p) → wp_X2_leastClash_54 post (k + 1) (nI p) w (nI i) S := by
      intro k
      induction k with
      | zero =>
        intro i hi hbf
        show ws_X2_leastClash_54 _ post _ _ _ S
        unfold ws_X2_leastClash_54
        rw [hN.1]
        refine brt ((xc (by omega) (by omega)).mpr (by omega)) (hno (fun l q => ?_))
        have := cnt_lt_of q.1 q.2.1
        exact hbf l (by omega) q
      | succ k ih =>
        intro i hi hbf
        show ws_X2_leastClash_54 _ post _ _ _ S
        unfold ws_X2_leastClash_54
        rw [hN.1]
        refine brf (fun q => absurd ((xc (by omega) (by omega)).mp q) (by omega)) (br (fun c => hno (fun l q => ?_)) (fun c => ?_))
        · have := ((hcla l q.1 q.2.1).mp q).1
          rw [cmp0.mp c, lb_0] at this; cases this
        · obtain ⟨l, l1, l2, l3⟩ := cnt_surj (show i < cnt (ml X) 150 by omega)
          have hkl := hX.2.2.1 l l1
          have hpl := ok_pa hkl (by rw [l2.1]; decide)
          have hcl := hcla l l1 l2
          rw [l3] at hcl
          have hmk : gC_makers S i = nI l := by rw [← l3]; exact (hN.2.1 l l1 l2).2
          have hnext : ¬ cla X l p → wp_X2_leastClash_120 (wp_X2_leastClash_54 post (k + 1)) post (nI p) w (nI i) S := fun hnc => by
            unfold wp_X2_leastClash_120
            intro x4 e4
            subst e4
            rw [show nI i + (1 : Int32) = nI (i + 1) from nI_1 i]
            refine ih (i + 1) (by omega) (fun l' hl' q => ?_)
            by_cases e : cnt (ml X) l' = i
            · have := cnt_inj q.2.1 l2 (e.trans l3.symm)
              subst this; exact hnc q
            · exact hbf l' (by omega) q
          rw [n_cl (by omega), hmk]
          refine ⟨vp_in_nI (by omega) (by omega), s_pathAt l1 ?_⟩
          rw [((hb.2.1.1 l l1).2.1 (by rw [l2.1]; decide)).2]
          refine br (fun c2 => hnext (fun q => ?_)) (fun c2 => s_pathAt hp ?_)
          · have := (hcl.mp q).1
            rw [(lb_shr (by omega)).mp c2] at this; cases this
          · rw [((hb.2.1.1 p hp).2.1 h0).2]
            have hbit : lb w i = true := by
              cases e : lb w i
              · exact absurd ((lb_shr (by omega)).mpr e) c2
              · rfl
            refine s_obt hpl hpa (bi_br (fun c3 => ⟨vp_in_nI (by omega) (by omega), ?_⟩) (fun c3 => hnext (fun q => c3 (hcl.mp q).2)))
            rw [hmk]
            have hc : cla X l p := hcl.mpr ⟨hbit, c3⟩
            rw [lea_eq l1 hc (fun j hj q => hbf j (by have := cnt_lt_of hj q.2.1; omega) q)] at h
            exact h
    exact ⟨_, key (cnt (ml X) 150) 0 (by omega) (fun l q => by omega)⟩
  refine s_inForce hX hR hl1 hp (fun w hw => s_variableAt hp ?_)
  rw [((hb.2.1.1 p hp).2.1 h0).1, n_cl (by omega)]
  refine ⟨vp_in_nI (by omega) (by omega), fun x2 e2 => ?_⟩
  have hx2 : ∀ i, i < 64 → (lb x2 i = true ↔ ∃ l, l < 150 ∧ ml X l ∧ i = cnt (ml X) l ∧ frc X l p ∧ x_of X l = x_of X p) := fun i hi => by
    rw [e2, lb_and, Bool.and_eq_true, hw i hi, hN.2.2.2.1 _ i ho hi]
    constructor
    · rintro ⟨⟨l, l1, l2, l3, l4⟩, ⟨l', m1, m2, m3, m4⟩⟩
      have := cnt_inj l2 m2 (l3.symm.trans m3)
      subst this
      exact ⟨l, l1, l2, l3, l4, m4⟩
    · rintro ⟨l, l1, l2, l3, l4, l5⟩
      exact ⟨⟨l, l1, l2, l3, l4⟩, ⟨l, l1, l2, l3, l5⟩⟩
  refine s_onlyLooks hX hb hp h0 (bi_br (fun c x3 e3 => h51 x3 (fun i hi => ?_)) (fun c => h51 x2 (fun i hi => ?_)))
  · rw [e3, lb_and, Bool.and_eq_true, hx2 i hi, hN.2.2.2.2 i hi]
    constructor
    · rintro ⟨⟨l, l1, l2, l3, l4, l5⟩, ⟨l', m1, m2, m3, m4⟩⟩
      have := cnt_inj l2 m2 (l3.symm.trans m3)
      subst this
      exact ⟨l, l1, l2, l3, l4, l5, Or.inl m4⟩
    · rintro ⟨l, l1, l2, l3, l4, l5, l6⟩
      exact ⟨⟨l, l1, l2, l3, l4, l5⟩, ⟨l, l1, l2, l3, l6.resolve_right (fun q => q c)⟩⟩
  · rw [hx2 i hi]
    constructor
    · rintro ⟨l, l1, l2, l3, l4, l5⟩; exact ⟨l, l1, l2, l3, l4, l5, Or.inr c⟩
    · rintro ⟨l, l1, l2, l3, l4, l5, _⟩; exact ⟨l, l1, l2, l3, l4, l5⟩
theorem clp_lea (hX : XI X) {p : Nat} : lea (fun l => cla X l p) 150 = -1 ↔ ¬ clp X p := by
  rcases lea_cases (fun l => cla X l p) 150 with ⟨k, h1, h2, h3, h4⟩ | ⟨h1, h2⟩
  · rw [h4]
    exact ⟨fun e => absurd e (n_m1 (by omega)), fun e => absurd ⟨h2.2.2.1.1, k, h2⟩ e⟩
  · rw [h2]
    exact ⟨fun _ q => by obtain ⟨l, hl⟩ := q.2; exact h1 l hl.1 hl, fun _ => rfl⟩
theorem s_leastClashing (hX : XI X) (hR : RC S X) (hl1 : ¬ gC_lK S = 0) {post : Int32 → CS → Prop} (h : post (lea (clp X) 150) S) : wp_X6_leastClashing S post := by
  have key : ∀ (k i : Nat), i + k = 150 → (∀ j, j < i → ¬ clp X j) → wp_X6_leastClashing_2 post (k + 1) (nI i) S := by
    intro k
    induction k with
    | zero =>
      intro i hi hbf
      show ws_X6_leastClashing_2 _ post _ S
      unfold ws_X6_leastClashing_2
      refine brt ((xc (a := 150) (b := i) (by omega) (by omega)).mpr (by omega)) ?_
      rw [lea_no (fun j hj => hbf j (by omega))] at h
      exact h
    | succ k ih =>
      intro i hi hbf
      show ws_X6_leastClashing_2 _ post _ S
      unfold ws_X6_leastClashing_2
      refine brf (fun q => absurd ((xc (a := 150) (b := i) (by omega) (by omega)).mp q) (by omega)) (s_leastClash hX hR hl1 (by omega) (br (fun c x1 e1 => ?_) (fun c => ?_)))
      · subst e1
        rw [show nI i + (1 : Int32) = nI (i + 1) from nI_1 i]
        refine ih (i + 1) (by omega) (fun j hj => ?_)
        by_cases e : j = i
        · subst e; exact (clp_lea hX).mp c
        · exact hbf j (by omega)
      · have hc : clp X i := Classical.byContradiction (fun z => c ((clp_lea hX).mpr z))
        rw [lea_eq (by omega) hc hbf] at h
        exact h
  exact ⟨_, key 150 0 (by omega) (fun j hj => by omega)⟩
theorem s_missing (hX : XI X) (hR : RC S X) (hw1 : ¬ gC_wK S = 0) (he1 : ¬ gC_eK S = 0) {p : Nat} (hp : p < 150) {post : Int64 → CS → Prop} (h : ∀ w, (∀ i, i < 64 → (lb w i = true ↔ rch X p ∧ ∃ f, i = 4 * x_of X p + f ∧ lck X p f)) → post w S) : wp_X1_missing S (nI p) post := by
  have hn := hX.1
  have hb := hR.1
  unfold wp_X1_missing
  refine s_comeTo (hR.2.1 hw1) hp (bi_br (fun c => ?_) (fun c => h 0 (fun i hi => by rw [lb_0]; exact ⟨fun z => (by cases z), fun z => absurd z.1 c⟩)))
  unfold wp_X0_wantedAt
  rw [n_cl (by omega)]
  have hvp : vp_in (nI p) 150 := vp_in_nI (by omega) (by omega)
  refine ⟨hvp, hvp, h _ (fun i hi => ?_)⟩
  rw [lb_and, lb_not _ hi, Bool.and_eq_true, (hb.2.2.1 p hp).1 i hi]
  have hE := (hR.2.2.1 he1).2 p hp c
  constructor
  · rintro ⟨⟨f, q1, q2, q3, q4⟩, q5⟩
    refine ⟨c, f, q1, q3, q2, q4, ?_⟩
    have ho := ok_of (hX.2.2.1 p hp) q3
    have := hE _ f ho q2
    apply Classical.byContradiction
    intro z
    rw [q1, this.1.mpr z] at q5; cases q5
  · rintro ⟨_, f, q1, q2, q3, q4, q5⟩
    have ho := ok_of (hX.2.2.1 p hp) q2
    have := hE _ f ho q3
    refine ⟨⟨f, q1, q3, q2, q4⟩, ?_⟩
    rw [q1]
    cases e : lb (gC_onAll S p) (4 * x_of X p + f)
    · rfl
    · exact absurd q5 (this.1.mp e)
theorem miss_iff (hX : XI X) {p : Nat} (hp : p < 150) {w : Int64} (hw : ∀ i, i < 64 → (lb w i = true ↔ rch X p ∧ ∃ f, i = 4 * x_of X p + f ∧ lck X p f)) : lg_cmp w 0 = 0 ↔ ¬ lks X p := by
  have hn := hX.1
  rw [cmp0]
  constructor
  · rintro e ⟨h1, f, h2⟩
    have ho := ok_of (hX.2.2.1 p hp) h2.1
    have h4 := (hX.2.1 _ ho).2.2.1
    have := (hw (4 * x_of X p + f) (by have := h2.2.1; omega)).mpr ⟨h1, f, rfl, h2⟩
    rw [e, lb_0] at this; cases this
  · intro z
    apply Classical.byContradiction
    intro e
    obtain ⟨i, i1, i2⟩ := lb_nz.mp e
    obtain ⟨h1, f, _, h3⟩ := (hw i i1).mp i2
    exact z ⟨h1, f, h3⟩
theorem s_leastUnheld (hX : XI X) (hR : RC S X) (hw1 : ¬ gC_wK S = 0) (he1 : ¬ gC_eK S = 0) {post : Int32 → CS → Prop} (h : post (lea (lks X) 150) S) : wp_X6_leastUnheld S post := by
  have key : ∀ (k i : Nat), i + k = 150 → (∀ j, j < i → ¬ lks X j) → wp_X6_leastUnheld_2 post (k + 1) (nI i) S := by
    intro k
    induction k with
    | zero =>
      intro i hi hbf
      show ws_X6_leastUnheld_2 _ post _ S
      unfold ws_X6_leastUnheld_2
      refine brt ((xc (a := 150) (b := i) (by omega) (by omega)).mpr (by omega)) ?_
      rw [lea_no (fun j hj => hbf j (by omega))] at h
      exact h
    | succ k ih =>
      intro i hi hbf
      show ws_X6_leastUnheld_2 _ post _ S
      unfold ws_X6_leastUnheld_2
      refine brf (fun q => absurd ((xc (a := 150) (b := i) (by omega) (by omega)).mp q) (by omega)) (s_missing hX hR hw1 he1 (by omega) (fun w hw => br (fun c x1 e1 => ?_) (fun c => ?_)))
      · subst e1
        rw [show nI i + (1 : Int32) = nI (i + 1) from nI_1 i]
        refine ih (i + 1) (by omega) (fun j hj => ?_)
        by_cases e : j = i
        · subst e; exact (miss_iff hX (by omega) hw).mp c
        · exact hbf j (by omega)
      · have hc : lks X i := Classical.byContradiction (fun z => c ((miss_iff hX (by omega) hw).mpr z))
        rw [lea_eq (by omega) hc hbf] at h
        exact h
  exact ⟨_, key 150 0 (by omega) (fun j hj => by omega)⟩
end CFA

section MNX
variable {M : MS} {X : XT}
theorem m_in1 {x : Int32} {n : Nat} (hn : n + 1 < 2 ^ 31) {post : Int32 → MS → Prop} (h : post (bi (∃ k, x = nI k ∧ 1 ≤ k ∧ k ≤ n)) M) : wp_X7_in M x 1 (nI n) post := by
  unfold wp_X7_in
  refine br (fun c => lf0 h ?_) (fun c => br (fun c2 => lf0 h ?_) (fun c2 => lf1 h ?_))
  · rintro ⟨k, rfl, k1, k2⟩
    have := (xl (a := k) (b := 1) (by omega) (by omega)).mp c
    omega
  · rintro ⟨k, rfl, k1, k2⟩
    have := (xl (by omega) (by omega)).mp c2
    omega
  · rcases pk_ix x hn with q | q | ⟨j, hj, rfl⟩
    · exact absurd (Int32.lt_trans q (by decide)) c
    · exact absurd (Int32.lt_of_lt_of_le ((xl (by omega) (by omega)).mpr (Nat.lt_succ_self n)) q) c2
    · refine ⟨j, rfl, ?_, by omega⟩
      have : ¬ j < 1 := fun q => c ((xl (a := j) (b := 1) (by omega) (by omega)).mpr q)
      omega
theorem m_variable (hX : XI X) (hM : RM M X) {x1 x2 : Int32} {post : Int32 → MS → Prop} (h1 : ∀ s k, vVar X x1 x2 s k → ∀ M', RM M' (xvar X s k) → post (nI (x_nv X)) M') (h0 : (¬ ∃ s k, vVar X x1 x2 s k) → ∀ M', RM M' X → post (-1) M') : wp_X7_variable M x1 x2 post := by
  have hb := hM.1
  have hv := hb.1
  have hn := hX.1
  unfold wp_X7_variable
  refine m_in0 (n := 2) (by omega) (bi_br (fun c => ?_) (fun c => h0 (fun ⟨s, k, q⟩ => c ⟨s, by have := q.2.2.1; omega, q.1⟩) M hM))
  obtain ⟨s, hs, rfl⟩ := c
  have h20 : ∀ m : Nat, (∀ k, 1 ≤ k ∧ k ≤ m ↔ 1 ≤ k ∧ k ≤ 4 ∧ (s ≠ 0 → k = 1)) → m ≤ 4 → wp_X7_variable_20 post (nI s) x2 (nI m) 1 x2 M := fun m hm hm4 => by
    unfold wp_X7_variable_20
    have hu : ∀ {s' k' : Nat}, vVar X (nI s) x2 s' k' → s = s' := fun q => n_inj (by omega) (by have := q.2.2.1; omega) q.1
    refine m_in1 (by omega) (bi_br (fun c => ?_) (fun c => h0 (fun ⟨s', k', q⟩ => c ?_) M hM))
    · obtain ⟨k, rfl, hk⟩ := c
      have hk2 := (hm k).mp hk
      refine brn (fun c => ?_) (fun c => h0 (fun ⟨s', k', q⟩ => ?_) M hM)
      · rw [hv.1] at c ⊢
        have hlt : x_nv X < 16 := by
          have : x_nv X ≠ 16 := fun e => c (by rw [e]; rfl)
          omega
        refine ⟨vp_in_nI (by omega) (by omega), fun S1 e1 => ?_⟩
        rw [n_cl (by omega)] at e1
        have v1 : gM_nv S1 = nI (x_nv X) := by subst e1; exact hv.1
        rw [v1]
        refine ⟨vp_in_nI (by omega) (by omega), fun S2 e2 => ?_⟩
        rw [n_cl (by omega)] at e2
        have v2 : gM_nv S2 = nI (x_nv X) := by subst e2; exact v1
        rw [v2]
        refine ⟨vp_in_nI (by omega) (by omega), fun S3 e3 S4 e4 S5 e5 => ?_⟩
        rw [n_cl (by omega)] at e3
        have v3 : gM_nv S3 = nI (x_nv X) := by subst e3; exact v2
        rw [v3] at e4
        have v5 : gM_nv S5 = nI (x_nv X + 1) := by subst e5; subst e4; exact nI_1 _
        rw [v5, show nI (x_nv X + 1) - (1 : Int32) = nI (x_nv X) from nI_pred _]
        have g1 : gM_sort S5 = upd (gM_sort M) (x_nv X) (nI s) := by subst e5; subst e4; subst e3; subst e2; subst e1; rfl
        have g2 : gM_lvs S5 = upd (gM_lvs M) (x_nv X) (nI k) := by subst e5; subst e4; subst e3; subst e2; subst e1; rfl
        have g3 : gM_atF S5 = upd (gM_atF M) (x_nv X) 0 := by subst e5; subst e4; subst e3; subst e2; subst e1; rfl
        have g5 : gM_isOld S5 = 1 := by subst e5; rfl
        have ha : RMa S5 (xvar X s k) := by subst e5; subst e4; subst e3; subst e2; subst e1; exact hb.2.1
        have hx : RMn S5 (xvar X s k) := by subst e5; subst e4; subst e3; subst e2; subst e1; exact hb.2.2
        refine h1 s k ⟨rfl, rfl, by omega, hk2.1, hk2.2.1, hk2.2.2, hlt⟩ S5 (RM_of ⟨⟨v5, fun v hv2 => ?_⟩, ha, hx⟩ g5)
        rw [g1, g2, g3]
        by_cases he : v = x_nv X
        · subst he
          rw [u_s, u_s, u_s, show x_so (xvar X s k) (x_nv X) = s from un_s, show x_lv (xvar X s k) (x_nv X) = k from un_s, show x_af (xvar X s k) (x_nv X) = false from un_s, bi_f (by decide)]
          exact ⟨rfl, rfl, rfl⟩
        · have hv3 : v < x_nv X := by have : v < x_nv X + 1 := hv2; omega
          rw [u_n he, u_n he, u_n he, xv_so hv3, xv_lv hv3, xv_af hv3]
          exact hv.2 v hv3
      · have := q.2.2.2.2.2.2
        rw [hv.1] at c
        have := (xe (a := x_nv X) (b := 16) (by omega) (by omega)).mp c
        omega
    · have e := hu q
      subst e
      exact ⟨k', q.2.1, (hm k').mpr ⟨q.2.2.2.1, q.2.2.2.2.1, q.2.2.2.2.2.1⟩⟩
  refine brn (fun c => h20 1 (fun k => ?_) (by omega)) (fun c => h20 4 (fun k => ?_) (by omega))
  · have : s ≠ 0 := fun e => c (by rw [e]; rfl)
    omega
  · have := (n_e0 (by omega)).mp c
    omega
theorem m_begins (hX : XI X) (hM : RM M X) {x1 x2 : Int32} (hx2 : isb x2) {post : Int32 → MS → Prop} (h1 : ∀ v, v < x_nv X → x1 = nI v → ∀ M', RM M' (xbeg X v (decide (¬ x2 = 0))) → post 1 M') (h0 : ¬ inn x1 (x_nv X) → ∀ M', RM M' X → post (-1) M') : wp_X7_begins M x1 x2 post := by
  have hb := hM.1
  have hv := hb.1
  have hn := hX.1
  unfold wp_X7_begins
  refine m_isVar hX hv (bi_brn (fun c => ?_) (fun c => h0 c M hM))
  obtain ⟨v, hv1, rfl⟩ := c
  refine ⟨vp_in_nI (by omega) (by omega), fun S1 e1 S2 e2 => ?_⟩
  rw [n_cl (by omega), nb_i hx2] at e1
  have g3 : gM_atF S2 = upd (gM_atF M) v x2 := by subst e2; subst e1; rfl
  have g5 : gM_isOld S2 = 1 := by subst e2; rfl
  have ha : RMa S2 (xbeg X v (decide (¬ x2 = 0))) := by subst e2; subst e1; exact hb.2.1
  have hx : RMn S2 (xbeg X v (decide (¬ x2 = 0))) := by subst e2; subst e1; exact hb.2.2
  have hs : gM_nv S2 = gM_nv M ∧ gM_sort S2 = gM_sort M ∧ gM_lvs S2 = gM_lvs M := by subst e2; subst e1; exact ⟨rfl, rfl, rfl⟩
  refine h1 v hv1 rfl S2 (RM_of ⟨⟨hs.1.trans hv.1, fun u hu => ?_⟩, ha, hx⟩ g5)
  rw [hs.2.1, hs.2.2, g3]
  refine ⟨(hv.2 u hu).1, (hv.2 u hu).2.1, ?_⟩
  by_cases he : u = v
  · subst he
    rw [u_s, show x_af (xbeg X u (decide (¬ x2 = 0))) u = decide (¬ x2 = 0) from un_s]
    rcases hx2 with rfl | rfl
    · rw [bi_f (by decide)]
    · rw [bi_t (by decide)]
  · rw [u_n he, show x_af (xbeg X v (decide (¬ x2 = 0))) u = x_af X u from un_n he]
    exact (hv.2 u hu).2.2
theorem cnt_4 {P : Nat → Prop} (h : ∀ k, k < 4 → P k) : cnt P 4 = 4 := by
  rw [cnt_s_t (h 3 (by omega)), cnt_s_t (h 2 (by omega)), cnt_s_t (h 1 (by omega)), cnt_s_t (h 0 (by omega))]
  rfl
/-- the found places of next's loop: x4 for q, x5 for a free one -/
def nxI (M : MS) (p : Nat) (y : Int32) (x : Int32) (k : Nat) : Prop := (x = -1 ∧ ∀ j, j < k → gM_nexts M (4 * p + j) ≠ y) ∨ ∃ j, j < k ∧ x = nI j ∧ gM_nexts M (4 * p + j) = y
theorem nxI_y {M : MS} {p k : Nat} {y x : Int32} (h : gM_nexts M (4 * p + k) = y) : nxI M p y (nI k) (k + 1) := Or.inr ⟨k, by omega, rfl, h⟩
theorem nxI_n {M : MS} {p k : Nat} {y x : Int32} (h : ¬ gM_nexts M (4 * p + k) = y) (q : nxI M p y x k) : nxI M p y x (k + 1) := by
  rcases q with ⟨e, q⟩ | ⟨j, hj, q⟩
  · refine Or.inl ⟨e, fun j hj => ?_⟩
    by_cases ej : j = k
    · subst ej; exact h
    · exact q j (by omega)
  · exact Or.inr ⟨j, by omega, q⟩
theorem m_nx_set {p q f : Nat} (hX : XI X) (hb : RMb M X) (hp : p < 150) (hq : q < 150) (hf : f < 4) (hfr : gM_nexts M (4 * p + f) = -1) (he : x_ed X p q = false) {M' : MS} (g : gM_nexts M' = upd (gM_nexts M) (4 * p + f) (nI q)) (hv : RMv M' X) (ha : RMa M' X) : RMb M' (xnx X p q true (ncn X p q true)) := by
  refine ⟨hv, ha, fun a ha => ?_⟩
  rw [ncn_t0 he, g]
  obtain ⟨n1, n2, n3, n4⟩ := hb.2.2 a ha
  have e4 : x_cn (xnx X p q true (x_cn X p + 1)) a = un_ (x_cn X) p (x_cn X p + 1) a := rfl
  rw [e4]
  by_cases hap : a = p
  · subst hap
    rw [un_s]
    have hne : ∀ j, j < 4 → gM_nexts M (4 * a + j) ≠ nI q := fun j hj k => by
      rcases n1 j hj with z | ⟨b, hb1, hb2, hb3⟩
      · exact n_m1 (by omega) (k.symm.trans z)
      · have e := n_inj (by omega) (by omega) (k.symm.trans hb2)
        rw [← e, he] at hb3
        cases hb3
    refine ⟨fun k hk => ?_, fun b hb' => ?_, fun i j hi hj h1 h2 => ?_, ?_⟩
    · by_cases ek : k = f
      · subst ek
        rw [u_s]
        exact Or.inr ⟨q, hq, rfl, by rw [xnx_ed, if_pos ⟨rfl, rfl⟩]⟩
      · rw [u_n (by omega)]
        rcases n1 k hk with z | ⟨b, hb1, hb2, hb3⟩
        · exact Or.inl z
        · refine Or.inr ⟨b, hb1, hb2, ?_⟩
          rw [xnx_ed]
          split
          · rfl
          · exact hb3
    · rw [xnx_ed] at hb'
      by_cases hbq : b = q
      · subst hbq; exact ⟨f, hf, u_s⟩
      · rw [if_neg (fun k => hbq k.2)] at hb'
        obtain ⟨k, hk, e⟩ := n2 b hb'
        refine ⟨k, hk, ?_⟩
        rw [u_n]
        · exact e
        · intro z
          have : k = f := by omega
          subst this
          exact n_m1 (by have := (hX.2.2.2.1 a b hb').2; omega) (e.symm.trans hfr)
    · by_cases ei : i = f
      · subst ei
        rw [u_s] at h2
        by_cases ej : j = i
        · exact ej.symm
        · rw [u_n (by omega)] at h2
          exact absurd h2.symm (hne j hj)
      · rw [u_n (by omega)] at h1 h2
        by_cases ej : j = f
        · subst ej
          rw [u_s] at h2
          exact absurd h2 (hne i hi)
        · rw [u_n (by omega)] at h2
          exact n3 i j hi hj h1 h2
    · rw [n4, ← cnt_add (P := fun k => gM_nexts M (4 * a + k) ≠ -1) hf (fun z => z hfr)]
      refine cnt_congr (fun k hk => ?_)
      by_cases ek : k = f
      · subst ek
        rw [u_s]
        exact ⟨fun _ => n_m1 (by omega), fun _ => Or.inr rfl⟩
      · rw [u_n (by omega)]
        exact ⟨fun z => z.elim id (fun z => absurd z ek), Or.inl⟩
  · rw [un_n hap]
    refine ⟨fun k hk => ?_, fun b hb' => ?_, fun i j hi hj h1 h2 => ?_, ?_⟩
    · rw [u_n (by omega)]
      rcases n1 k hk with z | ⟨b, hb1, hb2, hb3⟩
      · exact Or.inl z
      · exact Or.inr ⟨b, hb1, hb2, by rw [xnx_ed, if_neg (fun k => hap k.1)]; exact hb3⟩
    · rw [xnx_ed, if_neg (fun k => hap k.1)] at hb'
      obtain ⟨k, hk, e⟩ := n2 b hb'
      exact ⟨k, hk, by rw [u_n (by omega)]; exact e⟩
    · rw [u_n (by omega)] at h1 h2
      rw [u_n (by omega)] at h2
      exact n3 i j hi hj h1 h2
    · rw [n4]
      exact cnt_congr (fun k hk => by rw [u_n (by omega)])
theorem m_nx_del {p q f : Nat} (hX : XI X) (hb : RMb M X) (hp : p < 150) (hq : q < 150) (hf : f < 4) (hfr : gM_nexts M (4 * p + f) = nI q) (he : x_ed X p q = true) {M' : MS} (g : gM_nexts M' = upd (gM_nexts M) (4 * p + f) (-1)) (hv : RMv M' X) (ha : RMa M' X) : RMb M' (xnx X p q false (ncn X p q false)) := by
  refine ⟨hv, ha, fun a ha => ?_⟩
  rw [ncn_f he, g]
  obtain ⟨n1, n2, n3, n4⟩ := hb.2.2 a ha
  have e4 : x_cn (xnx X p q false (x_cn X p - 1)) a = un_ (x_cn X) p (x_cn X p - 1) a := rfl
  rw [e4]
  by_cases hap : a = p
  · subst hap
    rw [un_s]
    have hnq : ¬ gM_nexts M (4 * a + f) = -1 := by rw [hfr]; exact n_m1 (by omega)
    refine ⟨fun k hk => ?_, fun b hb' => ?_, fun i j hi hj h1 h2 => ?_, ?_⟩
    · by_cases ek : k = f
      · subst ek
        rw [u_s]
        exact Or.inl rfl
      · rw [u_n (by omega)]
        rcases n1 k hk with z | ⟨b, hb1, hb2, hb3⟩
        · exact Or.inl z
        · refine Or.inr ⟨b, hb1, hb2, ?_⟩
          rw [xnx_ed, if_neg]
          · exact hb3
          · rintro ⟨_, rfl⟩
            exact ek (n3 k f hk hf (by rw [hb2]; exact n_m1 (by omega)) (hb2.trans hfr.symm))
    · rw [xnx_ed] at hb'
      by_cases hbq : b = q
      · rw [if_pos ⟨rfl, hbq⟩] at hb'; cases hb'
      · rw [if_neg (fun k => hbq k.2)] at hb'
        obtain ⟨k, hk, e⟩ := n2 b hb'
        refine ⟨k, hk, ?_⟩
        rw [u_n]
        · exact e
        · intro z
          have : k = f := by omega
          subst this
          exact hbq (n_inj (by have := (hX.2.2.2.1 a b hb').2; omega) (by omega) (e.symm.trans hfr))
    · by_cases ei : i = f
      · subst ei
        rw [u_s] at h1
        exact absurd rfl h1
      · rw [u_n (by omega)] at h1 h2
        by_cases ej : j = f
        · subst ej
          rw [u_s] at h2
          exact absurd h2 h1
        · rw [u_n (by omega)] at h2
          exact n3 i j hi hj h1 h2
    · rw [n4, ← cnt_del (P := fun k => gM_nexts M (4 * a + k) ≠ -1) hf hnq, Nat.add_sub_cancel]
      refine cnt_congr (fun k hk => ?_)
      by_cases ek : k = f
      · subst ek
        rw [u_s]
        exact ⟨fun z => absurd rfl z.2, fun z => absurd rfl z⟩
      · rw [u_n (by omega)]
        exact ⟨fun z => z.1, fun z => ⟨z, ek⟩⟩
  · rw [un_n hap]
    refine ⟨fun k hk => ?_, fun b hb' => ?_, fun i j hi hj h1 h2 => ?_, ?_⟩
    · rw [u_n (by omega)]
      rcases n1 k hk with z | ⟨b, hb1, hb2, hb3⟩
      · exact Or.inl z
      · exact Or.inr ⟨b, hb1, hb2, by rw [xnx_ed, if_neg (fun k => hap k.1)]; exact hb3⟩
    · rw [xnx_ed, if_neg (fun k => hap k.1)] at hb'
      obtain ⟨k, hk, e⟩ := n2 b hb'
      exact ⟨k, hk, by rw [u_n (by omega)]; exact e⟩
    · rw [u_n (by omega)] at h1 h2
      rw [u_n (by omega)] at h2
      exact n3 i j hi hj h1 h2
    · rw [n4]
      exact cnt_congr (fun k hk => by rw [u_n (by omega)])
theorem m_next (hX : XI X) (hM : RM M X) {x1 x2 x3 : Int32} {post : Int32 → MS → Prop} (h1 : ∀ p q, p < 150 → q < 150 → x1 = nI p → x2 = nI q → ¬ (¬ x3 = 0 ∧ x_ed X p q = false ∧ 4 ≤ x_cn X p) → ∀ M', RM M' (xnx X p q (decide (¬ x3 = 0)) (ncn X p q (decide (¬ x3 = 0)))) → post 1 M') (h0 : (¬ ∃ p q, p < 150 ∧ q < 150 ∧ x1 = nI p ∧ x2 = nI q ∧ ¬ (¬ x3 = 0 ∧ x_ed X p q = false ∧ 4 ≤ x_cn X p)) → ∀ M', RM M' X → post (-1) M') : wp_X7_next M x1 x2 x3 post := by
  have hb := hM.1
  have hn := hX.1
  unfold wp_X7_next
  refine m_isPoint (bi_br (fun c => ?_) (fun c => h0 (fun ⟨p', q', k1, k2, k3, k4, _⟩ => c ⟨p', k1, k3⟩) M hM))
  obtain ⟨p, hp, rfl⟩ := c
  refine m_isPoint (bi_brn (fun c => ?_) (fun c => h0 (fun ⟨p', q', k1, k2, k3, k4, _⟩ => c ⟨q', k2, k4⟩) M hM))
  obtain ⟨q, hq, rfl⟩ := c
  obtain ⟨n1, n2, n3, n4⟩ := hb.2.2 p hp
  have h1 := h1 p q hp hq rfl rfl
  have hno : ¬ x3 = 0 → x_ed X p q = false → 4 ≤ x_cn X p → post (-1) M := fun z1 z2 z3 => h0 (fun ⟨p', q', k1, k2, k3, k4, k5⟩ => by
    have ep := n_inj (by omega) (by omega) k3
    have eq := n_inj (by omega) (by omega) k4
    subst ep; subst eq
    exact k5 ⟨z1, z2, z3⟩) M hM
  have end_ : ∀ x4 x5, nxI M p (nI q) x4 4 → nxI M p (-1) x5 4 → ¬ (¬ x3 = 0 ∧ x4 = -1 ∧ x5 = -1) → wp_X7_next_93 post (nI p) (nI q) x3 x4 x5 M := by
    intro x4 x5 i4 i5 hne
    have hat : (x4 = -1 ∧ x_ed X p q = false) ∨ ∃ j, j < 4 ∧ x4 = nI j ∧ gM_nexts M (4 * p + j) = nI q ∧ x_ed X p q = true := by
      rcases i4 with ⟨e, z⟩ | ⟨j, hj, e, z⟩
      · refine Or.inl ⟨e, ?_⟩
        cases ee : x_ed X p q
        · rfl
        · obtain ⟨k, hk, e2⟩ := n2 q ee
          exact absurd e2 (z k hk)
      · refine Or.inr ⟨j, hj, e, z, ?_⟩
        rcases n1 j hj with z2 | ⟨b, b1, b2, b3⟩
        · exact absurd (z.symm.trans z2) (n_m1 (by omega))
        · have := n_inj (by omega) (by omega) (z.symm.trans b2)
          rw [this]; exact b3
    have h137 : ∀ S1, RMb S1 (xnx X p q (decide (¬ x3 = 0)) (ncn X p q (decide (¬ x3 = 0)))) → ¬ (¬ x3 = 0 ∧ x_ed X p q = false ∧ 4 ≤ x_cn X p) → wp_X7_next_137 post S1 := fun S1 hS1 hok => by
      unfold wp_X7_next_137
      intro S2 e2
      subst e2
      exact h1 hok _ (RM_of (RMb_eq (M := S1) rfl hS1) rfl)
    unfold wp_X7_next_93
    refine br (fun c => ?_) (fun c => ?_)
    · have hdec : decide (¬ x3 = 0) = false := by simp [c]
      rw [hdec] at h137
      unfold wp_X7_next_115
      refine brnf c ?_
      rcases hat with ⟨e, ee⟩ | ⟨j, hj, e, z, ee⟩
      · refine brt e (h137 M ?_ (fun k => k.1 c))
        rw [ncn_f0 ee, xnx_id ee]
        exact hb
      · refine brf (by rw [e]; exact n_m1 (by omega)) ?_
        rw [e, n_4q, n_cl (by omega)]
        refine ⟨vp_in_nI (by omega) (by omega), fun S1 e1 => h137 S1 (m_nx_del hX hb hp hq hj z ee (by subst e1; rfl) ?_ ?_) (fun k => k.1 c)⟩
        · subst e1; exact hb.1
        · subst e1; exact hb.2.1
    · have hdec : decide (¬ x3 = 0) = true := by simp [c]
      rw [hdec] at h137
      have h115 : ∀ S1, RMb S1 (xnx X p q true (ncn X p q true)) → ¬ (¬ x3 = 0 ∧ x_ed X p q = false ∧ 4 ≤ x_cn X p) → wp_X7_next_115 post (nI p) x3 x4 S1 := fun S1 hS1 hok => by
        unfold wp_X7_next_115
        exact brnt c (h137 S1 hS1 hok)
      rcases hat with ⟨e, ee⟩ | ⟨j, hj, e, z, ee⟩
      · refine brnf e ?_
        rcases i5 with ⟨e5, z5⟩ | ⟨f, hf, e5, z5⟩
        · exact absurd ⟨c, e, e5⟩ hne
        · rw [e5, n_4q, n_cl (by omega)]
          refine ⟨vp_in_nI (by omega) (by omega), fun S1 e1 => h115 S1 (m_nx_set hX hb hp hq hf z5 ee (by subst e1; rfl) ?_ ?_) (fun k => ?_)⟩
          · subst e1; exact hb.1
          · subst e1; exact hb.2.1
          · have := cnt_lt (P := fun k => gM_nexts M (4 * p + k) ≠ -1) hf (fun z => z z5)
            omega
      · refine brnt (by rw [e]; exact n_m1 (by omega)) (h115 M ?_ (fun k => by rw [ee] at k; exact absurd k.2.1 (by decide)))
        rw [ncn_t ee, xnx_id ee]
        exact hb
  have key : ∀ (k i : Nat), i + k = 4 → ∀ x4 x5, nxI M p (nI q) x4 i → nxI M p (-1) x5 i → wp_X7_next_25 post (k + 1) (nI p) (nI q) x3 x4 x5 (nI i) M := by
    intro k
    induction k with
    | zero =>
      intro i hi x4 x5 i4 i5
      have e : i = 4 := by omega
      subst e
      show ws_X7_next_25 _ post _ _ _ _ _ _ M
      unfold ws_X7_next_25
      refine brt (by decide) (br (fun c => end_ x4 x5 i4 i5 (fun z => z.1 c)) (fun c => brn (fun c2 => end_ x4 x5 i4 i5 (fun z => c2 z.2.1)) (fun c2 => brn (fun c3 => end_ x4 x5 i4 i5 (fun z => c3 z.2.2)) (fun c3 => hno c ?_ ?_))))
      · rcases i4 with ⟨_, z⟩ | ⟨j, hj, e, z⟩
        · cases ee : x_ed X p q
          · rfl
          · obtain ⟨k, hk, e2⟩ := n2 q ee
            exact absurd e2 (z k hk)
        · exact absurd (e.symm.trans c2) (n_m1 (by omega))
      · rcases i5 with ⟨_, z⟩ | ⟨j, hj, e, z⟩
        · rw [n4, cnt_4 (P := fun k => gM_nexts M (4 * p + k) ≠ -1) z]; omega
        · exact absurd (e.symm.trans c3) (n_m1 (by omega))
    | succ k ih =>
      intro i hi x4 x5 i4 i5
      show ws_X7_next_25 _ post _ _ _ _ _ _ M
      unfold ws_X7_next_25
      rw [n_4q, n_cl (by omega)]
      have hvi : vp_in (nI (4 * p + i)) 600 := vp_in_nI (by omega) (by omega)
      have h50 : ∀ x4, nxI M p (nI q) x4 (i + 1) → wp_X7_next_50 (wp_X7_next_25 post (k + 1)) post (nI p) (nI q) x3 x4 x5 (nI i) M := fun x4 j4 => by
        unfold wp_X7_next_50
        rw [n_4q, n_cl (by omega)]
        have h69 : ∀ x5, nxI M p (-1) x5 (i + 1) → wp_X7_next_69 (wp_X7_next_25 post (k + 1)) post (nI p) (nI q) x3 x4 x5 (nI i) M := fun x5 j5 => by
          unfold wp_X7_next_69
          intro x6 e6
          subst e6
          rw [show nI i + (1 : Int32) = nI (i + 1) from nI_1 i]
          exact ih (i + 1) (by omega) x4 x5 j4 j5
        exact ⟨hvi, brn (fun c => h69 x5 (nxI_n c i5)) (fun c => h69 (nI i) (nxI_y (x := x5) c))⟩
      exact brf (fun q => absurd ((xc (a := 4) (b := i) (by omega) (by omega)).mp q) (by omega)) ⟨hvi, brn (fun c => h50 x4 (nxI_n c i4)) (fun c => h50 (nI i) (nxI_y (x := x4) c))⟩
  exact ⟨_, key 4 0 (by omega) (-1) (-1) (Or.inl ⟨rfl, fun j hj => by omega⟩) (Or.inl ⟨rfl, fun j hj => by omega⟩)⟩
end MNX

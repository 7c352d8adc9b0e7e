section MWR
variable {M : MS} {X : XT}
theorem RM_of {M : MS} {X : XT} (h : RMb M X) (ho : gM_isOld M = 1) : RM M X := ⟨h, fun q => by rw [ho] at q; exact absurd q (by decide)⟩
theorem RMv_eq {M M' : MS} {X : XT} (h : M'.1 = M.1) (q : RMv M X) : RMv M' X := by unfold RMv gM_nv gM_sort gM_lvs gM_atF at *; rw [h]; exact q
theorem RMa_eq {M M' : MS} {X : XT} (h : M'.1 = M.1) (q : RMa M X) : RMa M' X := by unfold RMa gM_acts gM_of gM_path gM_to at *; rw [h]; exact q
theorem RMn_eq {M M' : MS} {X : XT} (h : M'.1 = M.1) (q : RMn M X) : RMn M' X := by unfold RMn gM_nexts at *; rw [h]; exact q
theorem RMb_eq {M M' : MS} {X : XT} (h : M'.1 = M.1) (q : RMb M X) : RMb M' X := ⟨RMv_eq h q.1, RMa_eq h q.2.1, RMn_eq h q.2.2⟩
theorem m_become (hb : RMb M X) {p a o w t : Nat} (hp : p < 150) {x3 x4 x5 : Int32} (hx : a ≠ 0 → x3 = nI o ∧ x4 = nI w) (hx5 : a = 7 ∨ a = 8 → x5 = nI t) {post : MS → Prop} (h : ∀ M', RM M' (xset X p a o w t) → post M') : wp_X7_become M (nI p) (nI a) x3 x4 x5 post := by
  have hvi : vp_in (nI p) 150 := vp_in_nI (by omega) (by omega)
  unfold wp_X7_become
  refine ⟨hvi, fun S1 e1 => ⟨hvi, fun S2 e2 => ⟨hvi, fun S3 e3 => ⟨hvi, fun S4 e4 S5 e5 => ?_⟩⟩⟩⟩
  rw [n_cl (by omega)] at e1 e2 e3 e4
  have g1 : gM_acts S5 = upd (gM_acts M) p (nI a) := by subst e5; subst e4; subst e3; subst e2; subst e1; rfl
  have g2 : gM_of S5 = upd (gM_of M) p x3 := by subst e5; subst e4; subst e3; subst e2; subst e1; rfl
  have g3 : gM_path S5 = upd (gM_path M) p x4 := by subst e5; subst e4; subst e3; subst e2; subst e1; rfl
  have g4 : gM_to S5 = upd (gM_to M) p x5 := by subst e5; subst e4; subst e3; subst e2; subst e1; rfl
  have g5 : gM_isOld S5 = 1 := by subst e5; rfl
  have hv : RMv S5 (xset X p a o w t) := by subst e5; subst e4; subst e3; subst e2; subst e1; exact hb.1
  have hn : RMn S5 (xset X p a o w t) := by subst e5; subst e4; subst e3; subst e2; subst e1; exact hb.2.2
  refine h S5 (RM_of ⟨hv, fun q hq => ?_, hn⟩ g5)
  rw [g1, g2, g3, g4]
  by_cases e : q = p
  · subst e
    rw [u_s, u_s, u_s, u_s, xs_ac, xs_of, xs_pa, xs_to]
    exact ⟨rfl, hx, hx5⟩
  · rw [u_n e, u_n e, u_n e, u_n e, xn_ac e, xn_of e, xn_pa e, xn_to e]
    exact hb.2.1 q hq
theorem m_act (hX : XI X) (hM : RM M X) {x1 x2 x3 x4 : Int32} {post : Int32 → MS → Prop} (h1 : ∀ p a o w, vAct X x1 x2 x3 x4 p a o w → ∀ M', RM M' (xset X p a o w 0) → post 1 M') (h0 : (¬ ∃ p a o w, vAct X x1 x2 x3 x4 p a o w) → ∀ M', RM M' X → post (-1) M') : wp_X7_act M x1 x2 x3 x4 post := by
  have hb := hM.1
  have hv := hb.1
  have hn := hX.1
  unfold wp_X7_act
  refine m_isPoint (bi_br (fun c => ?_) (fun c => h0 (fun ⟨p', a, o, w, q⟩ => c ⟨p', q.2.1, q.1⟩) M hM))
  obtain ⟨p, hp, rfl⟩ := c
  refine m_in0 (n := 6) (by omega) (bi_brn (fun c => ?_) (fun c => h0 (fun ⟨p', a, o, w, q⟩ => c ⟨a, by have := q.2.2.2.1; omega, q.2.2.1⟩) M hM))
  obtain ⟨a, ha, rfl⟩ := c
  have hu : ∀ {p' a' o' w' : Nat}, vAct X (nI p) (nI a) x3 x4 p' a' o' w' → a = a' := fun q => n_inj (by omega) (by have := q.2.2.2.1; omega) q.2.2.1
  refine brn (fun ca => br (fun c5 => ?_) (fun c5 => ?_)) (fun ca => ?_)
  · have hz : a ≠ 0 := fun e => ca (by rw [e]; rfl)
    have h5 := (xl (a := a) (b := 5) (by omega) (by omega)).mp c5
    refine m_isPlace hX hv (bi_brn (fun c => ?_) (fun c => h0 ?_ M hM))
    · obtain ⟨o, w, rfl, rfl, hpl⟩ := c
      have ho := hpl.1
      have hw := hpl.2.1.1
      have h4 := hX.2.1 o ho
      have hvi : vp_in (nI o) 16 := vp_in_nI (by omega) (by omega)
      have hno : ¬ okA X a o w 0 → post (-1) M := fun z => h0 (fun ⟨p', a', o', w', q⟩ => by
        have ea := hu q
        subst ea
        have k1 := okA_o q.2.2.2.2.1 hz
        have k2 := okA_w q.2.2.2.2.1 hz
        have e1 := n_inj (by omega) (by omega) (q.2.2.2.2.2.2.1 hz)
        have e2 := n_inj (by omega) (by omega) (q.2.2.2.2.2.2.2 (by omega))
        subst e1; subst e2
        exact z q.2.2.2.2.1) M hM
      have yes : okA X a o w 0 → wp_X7_act_130 post (nI p) (nI a) (nI o) (nI w) M := fun hk => by
        unfold wp_X7_act_130
        exact m_become (t := 0) hb hp (fun _ => ⟨rfl, rfl⟩) (fun q => by omega) (fun M' hM' => h1 p a o w ⟨rfl, hp, rfl, by omega, hk, fun q => absurd q hz, fun _ => rfl, fun _ => rfl⟩ M' hM')
      have h113 : a ≠ 2 → (x_so X o ≠ 0 → w ≠ 0) → wp_X7_act_113 (fun x1 x2 x3 x4 S => wp_X7_act_130 post x1 x2 x3 x4 S) post (nI p) (nI a) (nI o) (nI w) M := fun n2 hso => by
        unfold wp_X7_act_113
        rw [n_cl (by omega), (hv.2 o ho).1]
        refine br (fun c => yes ?_) (fun c => ⟨hvi, brn (fun c2 => yes ?_) (fun c2 => hno ?_)⟩)
        · have e1 := (xe (a := a) (b := 1) (by omega) (by omega)).mp c
          exact Or.inr (Or.inr (Or.inl ⟨Or.inl e1, hpl, hso, fun q => absurd e1 q⟩))
        · have e2 : x_so X o ≠ 1 := fun e => c2 (by rw [e]; rfl)
          exact Or.inr (Or.inr (Or.inl ⟨by omega, hpl, hso, fun _ => e2⟩))
        · have n1 : a ≠ 1 := fun e => c (by rw [e]; rfl)
          have e2 := (xe (a := x_so X o) (b := 1) (by omega) (by omega)).mp c2
          unfold okA; omega
      rw [n_cl (by omega), (hv.2 o ho).1]
      refine brn (fun c2 => ⟨hvi, br (fun c3 => ?_) (fun c3 => br (fun c4 => hno ?_) (fun c4 => ?_))⟩) (fun c2 => ⟨hvi, brn (fun c3 => hno ?_) (fun c3 => m_isWithin hX hv ho hw (bi_br (fun c4 => hno ?_) (fun c4 => yes ?_)))⟩)
      · have n2 : a ≠ 2 := fun e => c2 (by rw [e]; rfl)
        have e0 := (n_e0 (by omega)).mp c3
        exact h113 n2 (fun q => absurd e0 q)
      · have n2 : a ≠ 2 := fun e => c2 (by rw [e]; rfl)
        have n0 : x_so X o ≠ 0 := fun e => c3 (by rw [e]; rfl)
        have e0 := (n_e0 (by omega)).mp c4
        unfold okA; omega
      · have n2 : a ≠ 2 := fun e => c2 (by rw [e]; rfl)
        have n0 : w ≠ 0 := fun e => c4 (by rw [e]; rfl)
        exact h113 n2 (fun _ => n0)
      · have e2 := (xe (a := a) (b := 2) (by omega) (by omega)).mp c2
        have n0 : x_so X o ≠ 0 := fun e => c3 (by rw [e]; rfl)
        unfold okA; omega
      · have e2 := (xe (a := a) (b := 2) (by omega) (by omega)).mp c2
        intro q
        rcases q with q | q | q | q | q | q
        · omega
        · omega
        · omega
        · exact q.2.2.2 c4
        · omega
        · omega
      · have e2 := (xe (a := a) (b := 2) (by omega) (by omega)).mp c2
        have e0 := (n_e0 (by omega)).mp c3
        exact Or.inr (Or.inr (Or.inr (Or.inl ⟨e2, hpl, e0, c4⟩)))
    · rintro ⟨p', a', o', w', q⟩
      have ea := hu q
      subst ea
      refine c ⟨o', w', q.2.2.2.2.2.2.1 hz, q.2.2.2.2.2.2.2 (by omega), ?_⟩
      rcases q.2.2.2.2.1 with k | k | k | k | k | k
      · omega
      · omega
      · exact k.2.1
      · exact k.2.1
      · exact k.2.1
      · omega
  · have h5 : ¬ a < 5 := fun q => c5 ((xl (a := a) (b := 5) (by omega) (by omega)).mpr q)
    refine m_isVar hX hv (bi_brn (fun c => ?_) (fun c => h0 ?_ M hM))
    · obtain ⟨o, ho, rfl⟩ := c
      have hk : okA X a o 0 0 := Or.inr (Or.inl ⟨by omega, ho, rfl⟩)
      exact m_become (w := 0) (t := 0) hb hp (fun _ => ⟨rfl, rfl⟩) (fun q => by omega) (fun M' hM' => h1 p a o 0 ⟨rfl, hp, rfl, by omega, hk, fun q => by omega, fun _ => rfl, fun q => by omega⟩ M' hM')
    · rintro ⟨p', a', o', w', q⟩
      have ea := hu q
      subst ea
      exact c ⟨o', okA_o q.2.2.2.2.1 (by omega), q.2.2.2.2.2.2.1 (by omega)⟩
  · have hz := (n_e0 (by omega)).mp ca
    subst hz
    exact m_become (a := 0) (o := 0) (w := 0) (t := 0) hb hp (fun q => absurd rfl q) (fun q => by omega) (fun M' hM' => h1 p 0 0 0 ⟨rfl, hp, rfl, by omega, Or.inl rfl, fun _ => ⟨rfl, rfl⟩, fun q => absurd rfl q, fun q => by omega⟩ M' hM')
theorem ok7 {t o w : Nat} : okA X 7 o w t → isPl X o w ∧ t < x_nv X ∧ x_so X t ≠ 0 ∧ (x_so X o ≠ 0 → w ≠ 0) ∧ (x_so X t = 2 → x_so X o ≠ 1) := fun q => by
  rcases q with q | q | q | q | q | q
  · omega
  · omega
  · omega
  · omega
  · exact q.2
  · omega
theorem m_lend (hX : XI X) (hM : RM M X) {x1 x2 x3 x4 : Int32} {post : Int32 → MS → Prop} (h1 : ∀ p t o w, vLend X x1 x2 x3 x4 p t o w → ∀ M', RM M' (xset X p 7 o w t) → post 1 M') (h0 : (¬ ∃ p t o w, vLend X x1 x2 x3 x4 p t o w) → ∀ M', RM M' X → post (-1) M') : wp_X7_lend M x1 x2 x3 x4 post := by
  have hb := hM.1
  have hv := hb.1
  have hn := hX.1
  unfold wp_X7_lend
  refine m_isPoint (bi_br (fun c => ?_) (fun c => h0 (fun ⟨p', t', o', w', q⟩ => c ⟨p', q.2.1, q.1⟩) M hM))
  obtain ⟨p, hp, rfl⟩ := c
  refine m_isRef hX hv (bi_br (fun c => ?_) (fun c => h0 (fun ⟨p', t', o', w', q⟩ => c ⟨t', (ok7 q.2.2.2.2.2.1).2.1, q.2.2.1, (ok7 q.2.2.2.2.2.1).2.2.1⟩) M hM))
  obtain ⟨t, ht, rfl, hst⟩ := c
  refine m_isPlace hX hv (bi_br (fun c => ?_) (fun c => h0 (fun ⟨p', t', o', w', q⟩ => c ⟨o', w', q.2.2.2.1, q.2.2.2.2.1, (ok7 q.2.2.2.2.2.1).1⟩) M hM))
  obtain ⟨o, w, rfl, rfl, hpl⟩ := c
  have ho := hpl.1
  have hw := hpl.2.1.1
  have h4 := hX.2.1 o ho
  have h5 := hX.2.1 t ht
  have hvo : vp_in (nI o) 16 := vp_in_nI (by omega) (by omega)
  have hvt : vp_in (nI t) 16 := vp_in_nI (by omega) (by omega)
  have hu : ∀ {p' t' o' w' : Nat}, vLend X (nI p) (nI t) (nI o) (nI w) p' t' o' w' → p = p' ∧ t = t' ∧ o = o' ∧ w = w' := fun q => by
    have k := ok7 q.2.2.2.2.2.1
    have k1 := k.1.1
    have k2 := k.1.2.1.1
    exact ⟨n_inj (by omega) (by have := q.2.1; omega) q.1, n_inj (by omega) (by omega) q.2.2.1, n_inj (by omega) (by omega) q.2.2.2.1, n_inj (by omega) (by omega) q.2.2.2.2.1⟩
  have hno : ¬ (okA X 7 o w t ∧ cnt (fun q => x_ac X q = 7 ∧ q ≠ p) 150 < 60) → post (-1) M := fun z => h0 (fun ⟨p', t', o', w', q⟩ => by
    obtain ⟨rfl, rfl, rfl, rfl⟩ := hu q
    exact z q.2.2.2.2.2) M hM
  have h61 : okA X 7 o w t → wp_X7_lend_61 post (nI p) (nI t) (nI o) (nI w) M := fun hk => by
    unfold wp_X7_lend_61
    have key : ∀ (k i : Nat), i + k = 150 → wp_X7_lend_67 post (k + 1) (nI p) (nI t) (nI o) (nI w) (nI (cnt (fun q => x_ac X q = 7 ∧ q ≠ p) i)) (nI i) M := by
      intro k
      induction k with
      | zero =>
        intro i hi
        have e : i = 150 := by omega
        subst e
        show ws_X7_lend_67 _ post _ _ _ _ _ _ M
        unfold ws_X7_lend_67
        have hle := cnt_le (fun q => x_ac X q = 7 ∧ q ≠ p) 150
        refine brt ((xc (a := 150) (b := 150) (by omega) (by omega)).mpr (Nat.le_refl _)) (br (fun c => ?_) (fun c => hno (fun z => c ((xl (b := 60) (by omega) (by omega)).mpr z.2))))
        have hc := (xl (b := 60) (by omega) (by omega)).mp c
        exact m_become (a := 7) hb hp (fun _ => ⟨rfl, rfl⟩) (fun _ => rfl) (fun M' hM' => h1 p t o w ⟨rfl, hp, rfl, rfl, rfl, hk, hc⟩ M' hM')
      | succ k ih =>
        intro i hi
        have hn' := ih (i + 1) (by omega)
        show ws_X7_lend_67 _ post _ _ _ _ _ _ M
        unfold ws_X7_lend_67
        have hno : ¬ (x_ac X i = 7 ∧ i ≠ p) → wp_X7_lend_99 (fun x1 x2 x3 x4 x6 k0 k1 S => wp_X7_lend_100 (wp_X7_lend_67 post (k + 1)) post x1 x2 x3 x4 x6 k0 k1 S) post (nI p) (nI t) (nI o) (nI w) (nI i) (nI (cnt (fun q => x_ac X q = 7 ∧ q ≠ p) i)) M := fun z => by
          unfold wp_X7_lend_99
          show wp_X7_lend_100 _ post _ _ _ _ _ _ _ M
          unfold wp_X7_lend_100
          intro x5 e5 x6 e6
          subst e5; subst e6
          rw [cnt_s_f (P := fun q => x_ac X q = 7 ∧ q ≠ p) z] at hn'
          rw [show nI i + (1 : Int32) = nI (i + 1) from nI_1 i, show nI (cnt (fun q => x_ac X q = 7 ∧ q ≠ p) i) + (0 : Int32) = _ from nI_add _ 0]
          exact hn'
        rw [n_cl (by omega), (hb.2.1 i (by omega)).1]
        have ha8 := ok_ac (hX.2.2.1 i (by omega))
        refine brf (fun q => absurd ((xc (a := 150) (b := i) (by omega) (by omega)).mp q) (by omega)) (br (fun c => hno (fun z => z.2 ((xe (by omega) (by omega)).mp c))) (fun c => ⟨vp_in_nI (by omega) (by omega), brn (fun c2 => hno (fun z => c2 (by rw [z.1]; rfl))) (fun c2 => ?_)⟩))
        have e7 := (xe (a := x_ac X i) (b := 7) (by omega) (by omega)).mp c2
        have np : i ≠ p := fun e => c (by rw [e])
        unfold wp_X7_lend_100
        intro x5 e5 x6 e6
        subst e5; subst e6
        rw [cnt_s_t (P := fun q => x_ac X q = 7 ∧ q ≠ p) ⟨e7, np⟩] at hn'
        rw [show nI i + (1 : Int32) = nI (i + 1) from nI_1 i, show nI (cnt (fun q => x_ac X q = 7 ∧ q ≠ p) i) + (1 : Int32) = _ from nI_1 _]
        exact hn'
    exact ⟨_, key 150 0 (by omega)⟩
  have h39 : (x_so X o ≠ 0 → w ≠ 0) → wp_X7_lend_39 post (nI p) (nI t) (nI o) (nI w) M := fun hso => by
    unfold wp_X7_lend_39
    rw [n_cl (by omega), n_cl (by omega), (hv.2 o ho).1, (hv.2 t ht).1]
    refine ⟨hvt, brn (fun c => h61 ?_) (fun c => ⟨hvo, brn (fun c2 => h61 ?_) (fun c2 => hno ?_)⟩)⟩
    · have n2 : x_so X t ≠ 2 := fun e => c (by rw [e]; rfl)
      exact Or.inr (Or.inr (Or.inr (Or.inr (Or.inl ⟨rfl, hpl, ht, hst, hso, fun q => absurd q n2⟩))))
    · have n1 : x_so X o ≠ 1 := fun e => c2 (by rw [e]; rfl)
      exact Or.inr (Or.inr (Or.inr (Or.inr (Or.inl ⟨rfl, hpl, ht, hst, hso, fun _ => n1⟩))))
    · have e2 := (xe (a := x_so X t) (b := 2) (by omega) (by omega)).mp c
      have e1 := (xe (a := x_so X o) (b := 1) (by omega) (by omega)).mp c2
      exact fun z => (ok7 z.1).2.2.2.2 e2 e1
  rw [n_cl (by omega), (hv.2 o ho).1]
  refine ⟨hvo, br (fun c => h39 (fun q => absurd ((n_e0 (by omega)).mp c) q)) (fun c => br (fun c2 => hno ?_) (fun c2 => h39 (fun _ e => c2 (by rw [e]; rfl))))⟩
  have n0 : x_so X o ≠ 0 := fun e => c (by rw [e]; rfl)
  exact fun z => (ok7 z.1).2.2.2.1 n0 ((n_e0 (by omega)).mp c2)
theorem ok8 {t o w : Nat} : okA X 8 o w t → o < x_nv X ∧ t < x_nv X ∧ x_so X o ≠ 0 ∧ x_so X t = x_so X o ∧ t ≠ o ∧ w = 0 := fun q => by
  unfold okA at q; omega
theorem m_copy (hX : XI X) (hM : RM M X) {x1 x2 x3 : Int32} {post : Int32 → MS → Prop} (h1 : ∀ p t o, vCopy X x1 x2 x3 p t o → ∀ M', RM M' (xset X p 8 o 0 t) → post 1 M') (h0 : (¬ ∃ p t o, vCopy X x1 x2 x3 p t o) → ∀ M', RM M' X → post (-1) M') : wp_X7_copy M x1 x2 x3 post := by
  have hb := hM.1
  have hv := hb.1
  have hn := hX.1
  unfold wp_X7_copy
  refine m_isPoint (bi_br (fun c => ?_) (fun c => h0 (fun ⟨p', t', o', q⟩ => c ⟨p', q.2.1, q.1⟩) M hM))
  obtain ⟨p, hp, rfl⟩ := c
  refine m_isRef hX hv (bi_br (fun c => ?_) (fun c => h0 (fun ⟨p', t', o', q⟩ => c ⟨t', (ok8 q.2.2.2.2).2.1, q.2.2.1, by have := ok8 q.2.2.2.2; omega⟩) M hM))
  obtain ⟨t, ht, rfl, hst⟩ := c
  refine m_isRef hX hv (bi_br (fun c => ?_) (fun c => h0 (fun ⟨p', t', o', q⟩ => c ⟨o', (ok8 q.2.2.2.2).1, q.2.2.2.1, (ok8 q.2.2.2.2).2.2.1⟩) M hM))
  obtain ⟨o, ho, rfl, hso⟩ := c
  have h4 := hX.2.1 o ho
  have h5 := hX.2.1 t ht
  have hno : ¬ okA X 8 o 0 t → post (-1) M := fun z => h0 (fun ⟨p', t', o', q⟩ => by
    have k := ok8 q.2.2.2.2
    have e1 := n_inj (by omega) (by omega) q.2.2.1
    have e2 := n_inj (by omega) (by omega) q.2.2.2.1
    subst e1; subst e2
    exact z q.2.2.2.2) M hM
  rw [n_cl (by omega), n_cl (by omega), (hv.2 o ho).1, (hv.2 t ht).1]
  refine br (fun c => hno (fun z => (ok8 z).2.2.2.2.1 ((xe (by omega) (by omega)).mp c))) (fun c => ⟨vp_in_nI (by omega) (by omega), vp_in_nI (by omega) (by omega), br (fun c2 => ?_) (fun c2 => hno (fun z => c2 (by rw [(ok8 z).2.2.2.1])))⟩)
  have hk : okA X 8 o 0 t := Or.inr (Or.inr (Or.inr (Or.inr (Or.inr ⟨rfl, ho, ht, hso, (xe (by omega) (by omega)).mp c2, fun e => c (by rw [e]), rfl⟩))))
  exact m_become (a := 8) (w := 0) hb hp (fun _ => ⟨rfl, rfl⟩) (fun _ => rfl) (fun M' hM' => h1 p t o ⟨rfl, hp, rfl, rfl, hk⟩ M' hM')
end MWR

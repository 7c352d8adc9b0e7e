def X0_ : XT := (0, fun _ => 0, fun _ => 0, fun _ => false, fun _ => 0, fun _ => 0, fun _ => 0, fun _ => 0, fun _ _ => false, fun _ => 0)
theorem cnt_no {P : Nat → Prop} (h : ∀ k, ¬ P k) (n : Nat) : cnt P n = 0 := by
  induction n with
  | zero => rfl
  | succ n ih => rw [cnt_s_f (h n), ih]
theorem c7_0 : cnt (fun p => x_ac X0_ p = 7) 150 = 0 := cnt_no (fun k z => by have : 0 = 7 := z; omega) 150
theorem XI_0 : XI X0_ := by
  refine ⟨Nat.zero_le _, fun v hv => absurd hv (Nat.not_lt_zero _), fun p _ => Or.inl rfl, fun p q h => ?_, fun p _ => Nat.zero_le _, ?_⟩
  · have : false = true := h
    cases this
  · rw [c7_0]; omega
theorem RC_0 : RC S0 X0_ := by
  refine ⟨⟨⟨rfl, fun v hv => absurd hv (Nat.not_lt_zero _), fun v f hv => absurd hv (Nat.not_lt_zero _), fun i _ => lb_0 i⟩, ⟨fun p _ => ⟨rfl, fun h => absurd rfl h, fun h => ?_⟩, ?_⟩, fun p hp => ⟨fun i hi => ?_, fun v f hv => absurd hv (Nat.not_lt_zero _), fun i _ => ⟨lb_0 i, lb_0 i⟩, fun h => ?_, fun _ => (show fl_I 150 (-1) (fun _ => 0) p = -1 from fi_lt hp), fun h => ?_, fun h => ?_, fun _ => (show fl_I 150 (-1) (fun _ => 0) p = -1 from fi_lt hp)⟩, fun p hp => ⟨rfl, fun i hi => absurd hi (Nat.not_lt_zero _), fun q h => ?_, fun i j hi => absurd hi (Nat.not_lt_zero _)⟩⟩, fun h => absurd rfl h, fun h => absurd rfl h, fun h => absurd rfl h⟩
  · have h : 0 = 7 ∨ 0 = 8 := h
    omega
  · rw [c7_0]; rfl
  · constructor
    · intro h
      have : lb 0 i = true := h
      rw [lb_0] at this; cases this
    · rintro ⟨f, _, _, h, _⟩
      exact absurd rfl h
  · rcases h with h | h
    · have : 0 = 8 := h.1
      omega
    · have h : onp 0 := h.1
      unfold onp at h; omega
  · have h : 0 = 7 ∨ 0 = 8 := h
    omega
  · have : 0 = 5 := h.1
    omega
  · have : false = true := h
    cases this
theorem RM_0 : RM M0 X0_ := by
  have hnx : ∀ p k, p < 150 → k < 4 → gM_nexts M0 (4 * p + k) = -1 := fun p k hp hk => (show fl_I 600 (-1) (fun _ => 0) (4 * p + k) = -1 from fi_lt (by omega))
  refine RM_of ⟨⟨rfl, fun v hv => absurd hv (Nat.not_lt_zero _)⟩, fun p _ => ⟨rfl, fun h => absurd rfl h, fun h => ?_⟩, fun p hp => ⟨fun k hk => Or.inl (hnx p k hp hk), fun q h => ?_, fun i j hi hj h => absurd (hnx p i hp hi) h, ?_⟩⟩ rfl
  · have h : 0 = 7 ∨ 0 = 8 := h
    omega
  · have : false = true := h
    cases this
  · show 0 = _
    have : ∀ n, n ≤ 4 → cnt (fun k => gM_nexts M0 (4 * p + k) ≠ -1) n = 0 := fun n => by
      induction n with
      | zero => intro _; rfl
      | succ n ih => intro hn; rw [cnt_s_f (P := fun k => gM_nexts M0 (4 * p + k) ≠ -1) (fun z => z (hnx p n hp (by omega))), ih (by omega)]
    exact (this 4 (Nat.le_refl _)).symm
def REL (S : CS) (M : MS) : Prop := ∃ X, XI X ∧ RC S X ∧ RM M X
theorem pure_main : ∃ Rel : CS → MS → Prop, StepsOK Rel ∧ Rel S0 M0 := by
  refine ⟨REL, ⟨?_, ?_, ?_, ?_, ?_, ?_, ?_, ?_, ?_, ?_, ?_, ?_, ?_, ?_⟩, X0_, XI_0, RC_0, RM_0⟩
  · rintro S M x1 x2 ⟨X, hX, hR, hM⟩
    refine c_variable hX hR (fun s k hv S' hS' => m_variable hX hM (fun s' k' hv' M' hM' => ⟨rfl, xvar X s k, xv_XI hX hv, hS', ?_⟩) (fun hno => absurd ⟨s, k, hv⟩ hno)) (fun hno S' hS' => m_variable hX hM (fun s k hv => absurd ⟨s, k, hv⟩ hno) (fun _ M' hM' => ⟨rfl, X, hX, hS', hM'⟩))
    have e1 := n_inj (by have := hv.2.2.1; omega) (by have := hv'.2.2.1; omega) (hv.1.symm.trans hv'.1)
    have e2 := n_inj (by have := hv.2.2.2.2.1; omega) (by have := hv'.2.2.2.2.1; omega) (hv.2.1.symm.trans hv'.2.1)
    subst e1; subst e2; exact hM'
  · rintro S M x1 x2 ⟨X, hX, hR, hM⟩ hx2
    have hn := hX.1
    refine c_begins hX hR (fun v hv e S' hS' => m_begins hX hM hx2 (fun v' hv' e' M' hM' => ⟨rfl, xbeg X v (decide (¬ x2 = 0)), hX, hS', ?_⟩) (fun hno => absurd ⟨v, hv, e⟩ hno)) (fun hno S' hS' => m_begins hX hM hx2 (fun v hv e => absurd ⟨v, hv, e⟩ hno) (fun _ M' hM' => ⟨rfl, X, hX, hS', hM'⟩))
    have e1 := n_inj (by omega) (by omega) (e.symm.trans e')
    subst e1; exact hM'
  · rintro S M x1 x2 x3 x4 ⟨X, hX, hR, hM⟩
    refine c_act hX hR (fun p a o w hv S' hS' => m_act hX hM (fun p' a' o' w' hv' M' hM' => ⟨rfl, xset X p a o w 0, xset_XI hX hv.2.1 hv.2.2.2.2.1 (cnt_set_le hX hv.2.1 (by have := hv.2.2.2.1; omega)), hS', ?_⟩) (fun hno => absurd ⟨p, a, o, w, hv⟩ hno)) (fun hno S' hS' => m_act hX hM (fun p a o w hv => absurd ⟨p, a, o, w, hv⟩ hno) (fun _ M' hM' => ⟨rfl, X, hX, hS', hM'⟩))
    obtain ⟨e1, e2, e3, e4⟩ := vAct_u hX hv hv'
    subst e1; subst e2; subst e3; subst e4; exact hM'
  · rintro S M x1 x2 x3 x4 ⟨X, hX, hR, hM⟩
    have hn := hX.1
    refine c_lend hX hR (fun p t o w hv S' hS' => m_lend hX hM (fun p' t' o' w' hv' M' hM' => ⟨rfl, xset X p 7 o w t, xset_XI hX hv.2.1 hv.2.2.2.2.2.1 (cnt_set_7 hv.2.1 hv.2.2.2.2.2.2), hS', ?_⟩) (fun hno => absurd ⟨p, t, o, w, hv⟩ hno)) (fun hno S' hS' => m_lend hX hM (fun p t o w hv => absurd ⟨p, t, o, w, hv⟩ hno) (fun _ M' hM' => ⟨rfl, X, hX, hS', hM'⟩))
    have k := ok7 hv.2.2.2.2.2.1
    have k' := ok7 hv'.2.2.2.2.2.1
    have k1 := k.1.1; have k2 := k.1.2.1.1; have k1' := k'.1.1; have k2' := k'.1.2.1.1
    have e1 := n_inj (by have := hv.2.1; omega) (by have := hv'.2.1; omega) (hv.1.symm.trans hv'.1)
    have e2 := n_inj (by omega) (by omega) (hv.2.2.1.symm.trans hv'.2.2.1)
    have e3 := n_inj (by omega) (by omega) (hv.2.2.2.1.symm.trans hv'.2.2.2.1)
    have e4 := n_inj (by omega) (by omega) (hv.2.2.2.2.1.symm.trans hv'.2.2.2.2.1)
    subst e1; subst e2; subst e3; subst e4; exact hM'
  · rintro S M x1 x2 x3 ⟨X, hX, hR, hM⟩
    have hn := hX.1
    refine c_copy hX hR (fun p t o hv S' hS' => m_copy hX hM (fun p' t' o' hv' M' hM' => ⟨rfl, xset X p 8 o 0 t, xset_XI hX hv.2.1 hv.2.2.2.2 (cnt_set_le hX hv.2.1 (by omega)), hS', ?_⟩) (fun hno => absurd ⟨p, t, o, hv⟩ hno)) (fun hno S' hS' => m_copy hX hM (fun p t o hv => absurd ⟨p, t, o, hv⟩ hno) (fun _ M' hM' => ⟨rfl, X, hX, hS', hM'⟩))
    have k := ok8 hv.2.2.2.2
    have k' := ok8 hv'.2.2.2.2
    have e1 := n_inj (by have := hv.2.1; omega) (by have := hv'.2.1; omega) (hv.1.symm.trans hv'.1)
    have e2 := n_inj (by omega) (by omega) (hv.2.2.1.symm.trans hv'.2.2.1)
    have e3 := n_inj (by omega) (by omega) (hv.2.2.2.1.symm.trans hv'.2.2.2.1)
    subst e1; subst e2; subst e3; exact hM'
  · rintro S M x1 x2 x3 ⟨X, hX, hR, hM⟩ hx3
    refine c_next hX hR (fun p q hp hq e1 e2 hc S' hS' => m_next hX hM (fun p' q' hp' hq' e1' e2' hc' M' hM' => ⟨rfl, xnx X p q (decide (¬ x3 = 0)) (ncn X p q (decide (¬ x3 = 0))), xnx_XI hX hp hq (fun z => hc ⟨of_decide_eq_true z.1, z.2⟩), hS', ?_⟩) (fun hno => absurd ⟨p, q, hp, hq, e1, e2, hc⟩ hno)) (fun hno S' hS' => m_next hX hM (fun p q hp hq e1 e2 hc => absurd ⟨p, q, hp, hq, e1, e2, hc⟩ hno) (fun _ M' hM' => ⟨rfl, X, hX, hS', hM'⟩))
    have k1 := n_inj (by omega) (by omega) (e1.symm.trans e1')
    have k2 := n_inj (by omega) (by omega) (e2.symm.trans e2')
    subst k1; subst k2; exact hM'
  · rintro S M ⟨X, hX, hR, hM⟩
    exact c_judge hX hR (fun S' hS' => m_judge hX hM (fun M' hM' => ⟨rfl, X, hX, hS', hM'⟩))
  · rintro S M x1 ⟨X, hX, hR, hM⟩
    exact c_fault hX hR (fun S' hS' => m_fault hX hM (fun M' hM' => ⟨rfl, X, hX, hS', hM'⟩))
  · rintro S M x1 ⟨X, hX, hR, hM⟩
    refine c_comes hX hR (fun p hp e S' hS' => m_comes hX hM (fun p' hp' e' M' hM' => ⟨?_, X, hX, hS', hM'⟩) (fun hno => absurd ⟨p, hp, e⟩ hno)) (fun hno S' hS' => m_comes hX hM (fun p hp e => absurd ⟨p, hp, e⟩ hno) (fun _ M' hM' => ⟨rfl, X, hX, hS', hM'⟩))
    rw [n_inj (by omega) (by omega) (e.symm.trans e')]
  · rintro S M x1 x2 x3 ⟨X, hX, hR, hM⟩
    have hn := hX.1
    refine c_held hX hR (fun p v f hp hv hf hr e1 e2 e3 S' hS' => m_held hX hM (fun p' v' f' hp' hv' hf' hr' e1' e2' e3' M' hM' => ⟨?_, X, hX, hS', hM'⟩) (fun hno => absurd ⟨p, v, f, hp, hv, hf, hr, e1, e2, e3⟩ hno)) (fun hno S' hS' => m_held hX hM (fun p v f hp hv hf hr e1 e2 e3 => absurd ⟨p, v, f, hp, hv, hf, hr, e1, e2, e3⟩ hno) (fun _ M' hM' => ⟨rfl, X, hX, hS', hM'⟩))
    have h4 := (hX.2.1 v hv).2.2.1
    have h4' := (hX.2.1 v' hv').2.2.1
    rw [n_inj (by omega) (by omega) (e1.symm.trans e1'), n_inj (by omega) (by omega) (e2.symm.trans e2'), n_inj (by omega) (by omega) (e3.symm.trans e3')]
  · rintro S M x1 x2 x3 ⟨X, hX, hR, hM⟩
    have hn := hX.1
    refine c_holds hX hR (fun p v l hp hv hs hl hm e1 e2 e3 S' hS' => m_holds hX hM (fun p' v' l' hp' hv' hs' hl' hm' e1' e2' e3' M' hM' => ⟨?_, X, hX, hS', hM'⟩) (fun hno => absurd ⟨p, v, l, hp, hv, hs, hl, hm, e1, e2, e3⟩ hno)) (fun hno S' hS' => m_holds hX hM (fun p v l hp hv hs hl hm e1 e2 e3 => absurd ⟨p, v, l, hp, hv, hs, hl, hm, e1, e2, e3⟩ hno) (fun _ M' hM' => ⟨rfl, X, hX, hS', hM'⟩))
    rw [n_inj (by omega) (by omega) (e1.symm.trans e1'), n_inj (by omega) (by omega) (e2.symm.trans e2'), n_inj (by omega) (by omega) (e3.symm.trans e3')]
  · rintro S M x1 x2 ⟨X, hX, hR, hM⟩
    have hn := hX.1
    refine c_used hX hR (fun p v hp hv hs e1 e2 S' hS' => m_used hX hM (fun p' v' hp' hv' hs' e1' e2' M' hM' => ⟨?_, X, hX, hS', hM'⟩) (fun hno => absurd ⟨p, v, hp, hv, hs, e1, e2⟩ hno)) (fun hno S' hS' => m_used hX hM (fun p v hp hv hs e1 e2 => absurd ⟨p, v, hp, hv, hs, e1, e2⟩ hno) (fun _ M' hM' => ⟨rfl, X, hX, hS', hM'⟩))
    rw [n_inj (by omega) (by omega) (e1.symm.trans e1'), n_inj (by omega) (by omega) (e2.symm.trans e2')]
  · rintro S M x1 x2 ⟨X, hX, hR, hM⟩
    refine c_force hX hR (fun l p hl hm hp e1 e2 S' hS' => m_force hX hM (fun l' p' hl' hm' hp' e1' e2' M' hM' => ⟨?_, X, hX, hS', hM'⟩) (fun hno => absurd ⟨l, p, hl, hm, hp, e1, e2⟩ hno)) (fun hno S' hS' => m_force hX hM (fun l p hl hm hp e1 e2 => absurd ⟨l, p, hl, hm, hp, e1, e2⟩ hno) (fun _ M' hM' => ⟨rfl, X, hX, hS', hM'⟩))
    rw [n_inj (by omega) (by omega) (e1.symm.trans e1'), n_inj (by omega) (by omega) (e2.symm.trans e2')]
  · rintro S M x1 ⟨X, hX, hR, hM⟩
    exact c_count hX hR (fun S' hS' => m_count hX hM (fun M' hM' => ⟨rfl, X, hX, hS', hM'⟩))

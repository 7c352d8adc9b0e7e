def sn_ (X : XT) (v f q0 a : Nat) : Prop := ∀ C : Nat → Prop, (∀ b, x_ed X q0 b = true → C b) → (∀ a b, C a → ¬ gv X a v f → x_ed X a b = true → C b) → C a
section MTK
variable {M0 M : MS} {X : XT}
theorem sn_ldo {v f q0 p : Nat} (hq : rch X q0) (h : sn_ X v f q0 p) : ldo X p v f q0 := by
  have := h (fun a => rch X a ∧ ∃ b, x_ed X q0 b = true ∧ lead X a v f b) (fun b hb => ⟨rch_s hq hb, b, hb, fun C z _ => z⟩) (fun a b ha hg he => ⟨rch_s ha.1 he, by
    obtain ⟨hr, c, hc, hl⟩ := ha
    exact ⟨c, hc, fun C z1 z2 => hl C (z2 a b z1 hr hg he) z2⟩⟩)
  exact this.2
theorem m_tk_loop (hX : XI X) (hb : RMb M0 X) {p v f q0 : Nat} (hp : p < 150) (hv1 : v < x_nv X) (hf : f < 4) {K : Int32 → Int32 → Int32 → Int32 → MS → Prop} {post : Int32 → MS → Prop} (h1 : sn_ X v f q0 p → ∀ M', kS M0 M' → post (nI q0) M') (h0 : ¬ ldo X p v f q0 → ∀ M', kS M0 M' → K (nI p) (nI v) (nI f) (nI q0) M') {V O : Nat → Prop} {n : Nat} (hW : WD 150 gM_seen (sn_ X v f q0) (kS M0) V O n M) (hi : ∀ b, x_ed X q0 b = true → V b) (hd : ∀ a, V a → ¬ O a → a ≠ p) (hc : ∀ a b, V a → ¬ O a → ¬ gv X a v f → x_ed X a b = true → V b) : ∃ n_, wp_X7_taker_141 K post n_ (nI p) (nI v) (nI f) (nI q0) M := by
  have key := lpm (α := Nat × MS) (fun n a => wp_X7_taker_141 K post n (nI p) (nI v) (nI f) (nI q0) a.2) (fun a => ∃ V O n, WD 150 gM_seen (sn_ X v f q0) (kS M0) V O n a.2 ∧ a.1 = 2 * (150 - cnt V 150) + n ∧ (∀ b, x_ed X q0 b = true → V b) ∧ (∀ a, V a → ¬ O a → a ≠ p) ∧ (∀ a b, V a → ¬ O a → ¬ gv X a v f → x_ed X a b = true → V b)) (fun a => a.1) (fun k a hI ih => ?_)
  · exact key (2 * (150 - cnt V 150) + n, M) ⟨V, O, n, hW, rfl, hi, hd, hc⟩
  · clear hi hd hc hW
    obtain ⟨m, M⟩ := a
    obtain ⟨V, O, n, hW, em, hi, hd, hc⟩ := hI
    dsimp only at hW em ih ⊢
    show ws_X7_taker_141 _ K post _ _ _ _ M
    have hn := WD_le hW
    unfold ws_X7_taker_141
    rw [hW.2.1]
    refine br (fun c => h0 ?_ M hW.1) (fun c S1 e1 => ?_)
    · have e := (n_le0 (by omega)).mp c
      subst e
      rintro ⟨b, hb, hl⟩
      have hVp : ¬ V p := fun z => hd p z (WD_0 hW p z) rfl
      exact hl (fun a => ¬ V a) hVp (fun a b hb' hr hg he hVa => hb' (hc a b hVa (WD_0 hW a hVa) hg he)) (hi b hb)
    · have hn1 : 0 < n := by
        have : ¬ n = 0 := fun e => c ((n_le0 (by omega)).mpr e)
        omega
      obtain ⟨a, a1, a2, a3, a4, a5, a6⟩ := WD_pop hW hn1
      rw [show nI n - (1 : Int32) = nI (n - 1) from pk_sub (b := 1) hn1] at e1
      have p1 : gM_piled S1 = nI (n - 1) := by subst e1; rfl
      have l1 : gM_pile S1 = gM_pile M := by subst e1; rfl
      have w1 := a6 S1 (by subst e1; exact hW.1) p1 l1 (fun b _ => by subst e1; rfl)
      have hb1 : RMb S1 X := RMb_eq w1.1.1.1 hb
      rw [p1]
      refine ⟨vp_in_nI (by omega) (by omega), fun x5 ex => ?_⟩
      rw [n_cl (by omega), l1, a5] at ex
      subst ex
      rw [ekn (by omega) (by omega)]
      refine brn (fun cp => m_gives hX hb1 a1 hv1 hf (bi_br (fun cg => ih (2 * (150 - cnt V 150) + (n - 1), S1) ⟨V, _, n - 1, w1.1, rfl, hi, fun b hb ho => ?_, fun x y hx ho hg he => ?_⟩ (by show 2 * (150 - cnt V 150) + (n - 1) < m; omega)) (fun cg => ?_))) (fun cp => h1 (by rw [← cp]; exact a2) S1 w1.1.1)
      · rcases w1.2.2.1 b hb ho with z | z
        · exact hd b z.1 z.2
        · rw [z]; exact cp
      · rcases w1.2.2.1 x hx ho with z | z
        · exact hc x y z.1 z.2 hg he
        · subst z; exact absurd cg hg
      · refine m_sc_seenb hX hb a1 (fun q hq => fun C z1 z2 => z2 a q (a2 C z1 z2) cg hq) w1 (fun V' O' n' M' w2 hs hq => ih (2 * (150 - cnt V' 150) + n', M') ⟨V', O', n', w2.1, rfl, fun b z => hs b (hi b z), fun b hb ho => ?_, fun x y hx ho hg he => ?_⟩ ?_)
        · rcases w2.2.2.1 b hb ho with z | z
          · exact hd b z.1 z.2
          · rw [z]; exact cp
        · rcases w2.2.2.1 x hx ho with z | z
          · exact hs y (hc x y z.1 z.2 hg he)
          · subst z; exact hq y he
        · have := w2.2.2.2
          show 2 * (150 - cnt V' 150) + n' < m
          omega
theorem m_tk_one (hX : XI X) (hb : RMb M X) {p v f q0 : Nat} (hp : p < 150) (hq0 : q0 < 150) (hv1 : v < x_nv X) (hf : f < 4) {K : Int32 → Int32 → Int32 → Int32 → MS → Prop} {post : Int32 → MS → Prop} (h1 : sn_ X v f q0 p → ∀ M', kS M M' → post (nI q0) M') (h0 : ¬ ldo X p v f q0 → ∀ M', kS M M' → K (nI p) (nI v) (nI f) (nI q0) M') : ∃ n_, wp_X7_taker_51 K post n_ (nI p) (nI v) (nI f) (nI q0) 0 M := by
  have key : ∀ (k i : Nat), i + k = 150 → ∀ M', kS M M' → (∀ j, j < i → gM_seen M' j = 0) → wp_X7_taker_51 K post (k + 1) (nI p) (nI v) (nI f) (nI q0) (nI i) M' := by
    intro k
    induction k with
    | zero =>
      intro i hi M' hk hz
      have e : i = 150 := by omega
      subst e
      show ws_X7_taker_51 _ K post _ _ _ _ _ M'
      unfold ws_X7_taker_51
      refine brt (by decide) (fun S1 e1 => ?_)
      have w0 : WX 150 gM_seen (sn_ X v f q0) (kS M) (fun _ => False) (fun _ => False) (2 * 150) (fun _ => False) (fun _ => False) 0 S1 := WX_init (by subst e1; exact hk) (by subst e1; rfl) (fun a ha => by subst e1; exact hz a ha)
      exact m_sc_seena hX hb hq0 (fun q hq => fun C z1 _ => z1 q hq) w0 (fun V' O' n' M2 w1 _ hq => m_tk_loop hX hb hp hv1 hf h1 h0 w1.1 hq (fun a q1 q2 => (w1.2.2.1 a q1 q2).elim) (fun a b q1 q2 => (w1.2.2.1 a q1 q2).elim))
    | succ k ih =>
      intro i hi M' hk hz
      show ws_X7_taker_51 _ K post _ _ _ _ _ M'
      unfold ws_X7_taker_51
      refine brf (fun q => absurd ((xc (a := 150) (b := i) (by omega) (by omega)).mp q) (by omega)) ⟨vp_in_nI (by omega) (by omega), fun S2 e2 x e3 => ?_⟩
      subst e3
      rw [n_cl (by omega)] at e2
      rw [show nI i + (1 : Int32) = nI (i + 1) from nI_1 i]
      refine ih (i + 1) (by omega) S2 (by subst e2; exact hk) (fun j hj => ?_)
      have g : gM_seen S2 = upd (gM_seen M') i 0 := by subst e2; rfl
      rw [g]
      by_cases e : j = i
      · subst e; exact u_s
      · rw [u_n e]; exact hz j (by omega)
  exact ⟨_, key 150 0 (by omega) M ⟨rfl, rfl, rfl⟩ (fun j hj => by omega)⟩
theorem kS_t {M0 M M' : MS} (h : kS M0 M) (h' : kS M M') : kS M0 M' := ⟨h'.1.trans h.1, h'.2.1.trans h.2.1, h'.2.2.trans h.2.2⟩
theorem m_taker (hX : XI X) (hb : RMb M X) (hw : VMw M X) (he : VMe M X) {p : Nat} (hp : p < 150) (hl : lks X p) {post : Int32 → MS → Prop} (h : ∀ M', kS M M' → post (tkr X p) M') : wp_X7_taker M (nI p) post := by
  have hk := hX.2.2.1 p hp
  obtain ⟨_, f0, hf0⟩ := id hl
  have ho := ok_of hk hf0.1
  have h4 := hX.2.1 _ ho
  have hlea : ∃ f, f < 4 ∧ lea (lck X p) 4 = nI f ∧ lfl X p = f := by
    rcases lea_cases (lck X p) 4 with ⟨k, k1, k2, k3, k4⟩ | ⟨k1, k2⟩
    · exact ⟨k, k1, k4, by unfold lfl; rw [k4, n_cl (by omega)]⟩
    · exact absurd hf0 (k1 f0 (by have := hf0.2.1; omega))
  obtain ⟨f, hf, ef, efl⟩ := hlea
  unfold wp_X7_taker
  refine ⟨vp_in_nI (by omega) (by omega), fun x2 e2 => m_lackedBy hX hb he hp ?_⟩
  rw [n_cl (by omega), ((hb.2.1 p hp).2.1 hf0.1).1] at e2
  subst e2
  rw [ef]
  unfold tkr at h
  rw [efl] at h
  have key : ∀ (k i : Nat), i + k = 150 → ∀ M', kS M M' → (∀ q, q < i → ¬ (rch X q ∧ tk X q (x_of X p) f ∧ ldo X p (x_of X p) f q)) → wp_X7_taker_16 post (k + 1) (nI p) (nI (x_of X p)) (nI f) (nI i) M' := by
    intro k
    induction k with
    | zero =>
      intro i hi M' hk hz
      have e : i = 150 := by omega
      subst e
      show ws_X7_taker_16 _ post _ _ _ _ M'
      unfold ws_X7_taker_16
      have hp := h M' hk
      rw [lea_no hz] at hp
      exact brt (by decide) hp
    | succ k ih =>
      intro i hi M' hk hz
      show ws_X7_taker_16 _ post _ _ _ _ M'
      unfold ws_X7_taker_16
      have hi1 : i < 150 := by omega
      have hb1 : RMb M' X := RMb_eq hk.1 hb
      have inc : ∀ M2, kS M M2 → ¬ (rch X i ∧ tk X i (x_of X p) f ∧ ldo X p (x_of X p) f i) → wp_X7_taker_258 (wp_X7_taker_16 post (k + 1)) post (nI p) (nI (x_of X p)) (nI f) (nI i) M2 := fun M2 k2 z => by
        unfold wp_X7_taker_258
        intro y ey
        subst ey
        rw [show nI i + (1 : Int32) = nI (i + 1) from nI_1 i]
        refine ih (i + 1) (by omega) M2 k2 (fun q hq => ?_)
        by_cases e : q = i
        · subst e; exact z
        · exact hz q (by omega)
      have hcm : gM_come M' i = bi (rch X i) := by
        have : gM_come M' = gM_come M := by unfold gM_come; rw [hk.2.1]
        rw [this]; exact hw i hi1
      rw [n_cl (by omega), hcm]
      refine brf (fun q => absurd ((xc (a := 150) (b := i) (by omega) (by omega)).mp q) (by omega)) ⟨vp_in_nI (by omega) (by omega), bi_br (fun cr => m_takes hX hb1 hi1 ho hf (bi_brn (fun ct => ?_) (fun ct => inc M' hk (fun z => ct z.2.1)))) (fun cr => inc M' hk (fun z => cr z.1))⟩
      refine m_tk_one hX hb1 hp hi1 ho hf (fun hs M2 k2 => ?_) (fun hno M2 k2 => inc M2 (kS_t hk k2) (fun z => hno z.2.2))
      have hp := h M2 (kS_t hk k2)
      rw [lea_eq hi1 ⟨cr, ct, sn_ldo cr hs⟩ hz] at hp
      exact hp
  exact ⟨_, key 150 0 (by omega) M ⟨rfl, rfl, rfl⟩ (fun q hq => by omega)⟩
end MTK

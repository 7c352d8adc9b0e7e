section MWY
variable {M0 M : MS} {X : XT}
theorem m_ways_loop (hX : XI X) (hb : RMb M0 X) {post : MS → Prop} (h : ∀ M', kC M0 M' → VMw M' X → post M') {V O : Nat → Prop} {n : Nat} (hW : WD 150 gM_come (rch X) (kC M0) V O n M) (h0 : V 0) (hc : ∀ a b, V a → ¬ O a → x_ed X a b = true → V b) : ∃ n_, wp_X7_walkWays_37 post n_ M := by
  have key := lpm (α := Nat × MS) (fun n a => wp_X7_walkWays_37 post n a.2) (fun a => ∃ V O n, WD 150 gM_come (rch X) (kC M0) V O n a.2 ∧ a.1 = 2 * (150 - cnt V 150) + n ∧ V 0 ∧ ∀ p q, V p → ¬ O p → x_ed X p q = true → V q) (fun a => a.1) (fun k a hI ih => ?_)
  · exact key (2 * (150 - cnt V 150) + n, M) ⟨V, O, n, hW, rfl, h0, hc⟩
  · clear h0 hc hW
    obtain ⟨m, M⟩ := a
    obtain ⟨V, O, n, hW, em, h0, hc⟩ := hI
    dsimp only at hW em ih ⊢
    show ws_X7_walkWays_37 _ post M
    have hn := WD_le hW
    unfold ws_X7_walkWays_37
    rw [hW.2.1]
    refine br (fun c => h M hW.1 (fun p hp => ?_)) (fun c S1 e1 => ?_)
    · have e := (n_le0 (by omega)).mp c
      subst e
      rw [hW.2.2.1 p hp]
      exact bi_e ⟨fun z => (hW.2.2.2.2.1 p z).2, fun z => z V h0 (fun a b ha hab => hc a b ha (WD_0 hW a ha) hab)⟩
    · have h1 : 0 < n := by
        have : ¬ n = 0 := fun e => c ((n_le0 (by omega)).mpr e)
        omega
      obtain ⟨a, a1, a2, a3, a4, a5, a6⟩ := WD_pop hW h1
      rw [show nI n - (1 : Int32) = nI (n - 1) from pk_sub (b := 1) h1] at e1
      have p1 : gM_piled S1 = nI (n - 1) := by subst e1; rfl
      have l1 : gM_pile S1 = gM_pile M := by subst e1; rfl
      have w1 := a6 S1 (by subst e1; exact hW.1) p1 l1 (fun b _ => by subst e1; rfl)
      rw [p1]
      refine ⟨vp_in_nI (by omega) (by omega), fun x1 ex => ?_⟩
      rw [n_cl (by omega), l1, a5] at ex
      subst ex
      refine m_sc_ways hX hb a1 (fun q hq => rch_s a2 hq) w1 (fun V' O' n' M' w2 hs hq => ih (2 * (150 - cnt V' 150) + n', M') ⟨V', O', n', w2.1, rfl, hs 0 h0, fun p q hp ho he => ?_⟩ ?_)
      · rcases w2.2.2.1 p hp ho with z | z
        · exact hs q (hc p q z.1 z.2 he)
        · subst z; exact hq q he
      · have := w2.2.2.2
        show 2 * (150 - cnt V' 150) + n' < m
        omega
theorem m_walkWays (hX : XI X) (hb : RMb M X) {post : MS → Prop} (h : ∀ M', kC M M' → VMw M' X → post M') : wp_X7_walkWays M post := by
  have key : ∀ (k i : Nat), i + k = 150 → ∀ M', kC M M' → (∀ j, j < i → gM_come M' j = 0) → wp_X7_walkWays_2 post (k + 1) (nI i) M' := by
    intro k
    induction k with
    | zero =>
      intro i hi M' hk hz
      have e : i = 150 := by omega
      subst e
      show ws_X7_walkWays_2 _ post _ M'
      unfold ws_X7_walkWays_2
      refine brt (by decide) (fun S1 e1 => ?_)
      have w0 : WX 150 gM_come (rch X) (kC M) (fun _ => False) (fun _ => False) (2 * 150) (fun _ => False) (fun _ => False) 0 S1 := WX_init (by subst e1; exact hk) (by subst e1; rfl) (fun a ha => by subst e1; exact hz a ha)
      refine m_come_come (a := 0) (by omega) rch_0 w0 (fun V' O' n' M2 w1 _ v0 => m_ways_loop hX hb h w1.1 v0 (fun a b q1 q2 _ => (w1.2.2.1 a q1 q2).elim))
    | succ k ih =>
      intro i hi M' hk hz
      show ws_X7_walkWays_2 _ post _ M'
      unfold ws_X7_walkWays_2
      refine brf (fun q => absurd ((xc (a := 150) (b := i) (by omega) (by omega)).mp q) (by omega)) ⟨vp_in_nI (by omega) (by omega), fun S2 e2 x e3 => ?_⟩
      subst e3
      rw [n_cl (by omega)] at e2
      rw [show nI i + (1 : Int32) = nI (i + 1) from nI_1 i]
      refine ih (i + 1) (by omega) S2 (by subst e2; exact hk) (fun j hj => ?_)
      have g : gM_come S2 = upd (gM_come M') i 0 := by subst e2; rfl
      rw [g]
      by_cases e : j = i
      · subst e; exact u_s
      · rw [u_n e]; exact hz j (by omega)
  exact ⟨_, key 150 0 (by omega) M ⟨rfl, rfl⟩ (fun j hj => by omega)⟩
end MWY

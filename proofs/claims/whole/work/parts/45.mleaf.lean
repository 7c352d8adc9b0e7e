section MLF
variable {M0 M : MS} {X : XT}
theorem m_lost_loop (hX : XI X) (hb : RMb M0 X) {v f : Nat} (hv1 : v < x_nv X) (hf : f < 4) {post : MS → Prop} (h : ∀ M', kL (4 * v + f) M0 M' → (∀ p, p < 150 → gM_lost M' (64 * p + (4 * v + f)) = bi (lst X v f p)) → post M') {V O : Nat → Prop} {n : Nat} (hW : WD 150 (fun M b => gM_lost M (64 * b + (4 * v + f))) (lst X v f) (kL (4 * v + f) M0) V O n M) (h0 : x_af X v = false → V 0) (h1 : ∀ a b, rch X a → tk X a v f → x_ed X a b = true → V b) (hc : ∀ a b, V a → ¬ O a → ¬ gv X a v f → x_ed X a b = true → V b) : ∃ n_, wp_X7_walkLeaf_lost_186 post n_ (nI v) (nI f) 0 (nI (4 * v + f)) M := by
  have hnv := hX.1
  have key := lpm (α := Nat × MS) (fun n a => wp_X7_walkLeaf_lost_186 post n (nI v) (nI f) 0 (nI (4 * v + f)) a.2) (fun a => ∃ V O n, WD 150 (fun M b => gM_lost M (64 * b + (4 * v + f))) (lst X v f) (kL (4 * v + f) M0) V O n a.2 ∧ a.1 = 2 * (150 - cnt V 150) + n ∧ (x_af X v = false → V 0) ∧ (∀ a b, rch X a → tk X a v f → x_ed X a b = true → V b) ∧ (∀ a b, V a → ¬ O a → ¬ gv X a v f → x_ed X a b = true → V b)) (fun a => a.1) (fun k a hI ih => ?_)
  · exact key (2 * (150 - cnt V 150) + n, M) ⟨V, O, n, hW, rfl, h0, h1, hc⟩
  · clear h0 h1 hc hW
    obtain ⟨m, M⟩ := a
    obtain ⟨V, O, n, hW, em, h0, h1, hc⟩ := hI
    dsimp only at hW em ih ⊢
    show ws_X7_walkLeaf_lost_186 _ post _ _ _ _ M
    have hn := WD_le hW
    unfold ws_X7_walkLeaf_lost_186
    rw [hW.2.1]
    refine br (fun c => h M hW.1 (fun p hp => ?_)) (fun c S1 e1 => ?_)
    · have e := (n_le0 (by omega)).mp c
      subst e
      rw [show gM_lost M (64 * p + (4 * v + f)) = bi (V p) from hW.2.2.1 p hp]
      exact bi_e ⟨fun z => (hW.2.2.2.2.1 p z).2, fun z => z V h0 h1 (fun a b ha hab => hc a b ha (WD_0 hW a ha) hab)⟩
    · have hn1 : 0 < n := by
        have : ¬ n = 0 := fun e => c ((n_le0 (by omega)).mpr e)
        omega
      obtain ⟨a, a1, a2, a3, a4, a5, a6⟩ := WD_pop hW hn1
      rw [show nI n - (1 : Int32) = nI (n - 1) from pk_sub (b := 1) hn1] at e1
      have p1 : gM_piled S1 = nI (n - 1) := by subst e1; rfl
      have l1 : gM_pile S1 = gM_pile M := by subst e1; rfl
      have w1 := a6 S1 (by subst e1; exact hW.1) p1 l1 (fun b _ => by subst e1; rfl)
      have hb1 : RMb S1 X := RMb_eq w1.1.1.1 hb
      rw [p1]
      refine ⟨vp_in_nI (by omega) (by omega), fun x6 ex => ?_⟩
      rw [n_cl (by omega), l1, a5] at ex
      subst ex
      refine brt rfl ?_
      refine m_gives hX hb1 a1 hv1 hf (bi_br (fun cg => ih (2 * (150 - cnt V 150) + (n - 1), S1) ⟨V, _, n - 1, w1.1, rfl, h0, h1, fun p q hp ho hg he => ?_⟩ (by show 2 * (150 - cnt V 150) + (n - 1) < m; omega)) (fun cg => ?_))
      · rcases w1.2.2.1 p hp ho with z | z
        · exact hc p q z.1 z.2 hg he
        · subst z; exact absurd cg hg
      · unfold wp_X7_walkLeaf_lost_246
        refine m_sc_lostb hX hb a1 (fun q hq => fun C z1 z2 z3 => z3 a q (a2 C z1 z2 z3) cg hq) (by omega) w1 (fun V' O' n' M' w2 hs hq => ih (2 * (150 - cnt V' 150) + n', M') ⟨V', O', n', w2.1, rfl, fun z => hs 0 (h0 z), fun p q z1 z2 z3 => hs q (h1 p q z1 z2 z3), fun p q hp ho hg he => ?_⟩ ?_)
        · rcases w2.2.2.1 p hp ho with z | z
          · exact hs q (hc p q z.1 z.2 hg he)
          · subst z; exact hq q he
        · have := w2.2.2.2
          show 2 * (150 - cnt V' 150) + n' < m
          omega
theorem m_walkLeaf_lost (hX : XI X) (hb : RMb M X) (hw : VMw M X) {v f : Nat} (hv1 : v < x_nv X) (hf : f < 4) {post : MS → Prop} (h : ∀ M', kL (4 * v + f) M M' → (∀ p, p < 150 → gM_lost M' (64 * p + (4 * v + f)) = bi (lst X v f p)) → post M') : wp_X7_walkLeaf_lost M (nI v) (nI f) 0 post := by
  have hnv := hX.1
  have h60 : ∀ V O n M', WX 150 (fun M b => gM_lost M (64 * b + (4 * v + f))) (lst X v f) (kL (4 * v + f) M) (fun _ => False) (fun _ => False) (2 * 150) V O n M' → (x_af X v = false → V 0) → wp_X7_walkLeaf_lost_60 post (nI v) (nI f) 0 (nI (4 * v + f)) M' := by
    intro V O n M' hW h0
    unfold wp_X7_walkLeaf_lost_60
    have key : ∀ (k i : Nat), i + k = 150 → ∀ V O n M', WX 150 (fun M b => gM_lost M (64 * b + (4 * v + f))) (lst X v f) (kL (4 * v + f) M) (fun _ => False) (fun _ => False) (2 * 150) V O n M' → (x_af X v = false → V 0) → (∀ a b, a < i → rch X a → tk X a v f → x_ed X a b = true → V b) → wp_X7_walkLeaf_lost_63 post (k + 1) (nI v) (nI f) 0 (nI (4 * v + f)) (nI i) M' := by
      intro k
      induction k with
      | zero =>
        intro i hi V O n M' hW h0 h1
        have e : i = 150 := by omega
        subst e
        show ws_X7_walkLeaf_lost_63 _ post _ _ _ _ _ M'
        unfold ws_X7_walkLeaf_lost_63
        exact brt (by decide) (m_lost_loop hX hb hv1 hf h hW.1 h0 (fun a b z1 z2 z3 => h1 a b (rch_lt hX z1) z1 z2 z3) (fun a b q1 q2 _ _ => (hW.2.2.1 a q1 q2).elim))
      | succ k ih =>
        intro i hi V O n M' hW h0 h1
        show ws_X7_walkLeaf_lost_63 _ post _ _ _ _ _ M'
        unfold ws_X7_walkLeaf_lost_63
        have hb1 : RMb M' X := RMb_eq hW.1.1.1 hb
        have inc : ∀ V2 O2 n2 M2, WX 150 (fun M b => gM_lost M (64 * b + (4 * v + f))) (lst X v f) (kL (4 * v + f) M) (fun _ => False) (fun _ => False) (2 * 150) V2 O2 n2 M2 → (x_af X v = false → V2 0) → (∀ a b, a < i + 1 → rch X a → tk X a v f → x_ed X a b = true → V2 b) → wp_X7_walkLeaf_lost_180 (wp_X7_walkLeaf_lost_63 post (k + 1)) post (nI v) (nI f) 0 (nI (4 * v + f)) (nI i) M2 := fun V2 O2 n2 M2 z1 z2 z3 => by
          unfold wp_X7_walkLeaf_lost_180
          intro y ey
          subst ey
          rw [show nI i + (1 : Int32) = nI (i + 1) from nI_1 i]
          exact ih (i + 1) (by omega) V2 O2 n2 M2 z1 z2 z3
        have skip : ¬ (rch X i ∧ tk X i v f) → wp_X7_walkLeaf_lost_180 (wp_X7_walkLeaf_lost_63 post (k + 1)) post (nI v) (nI f) 0 (nI (4 * v + f)) (nI i) M' := fun hz => inc V O n M' hW h0 (fun a b z1 z2 z3 z4 => by
          by_cases e : a = i
          · subst e; exact absurd ⟨z2, z3⟩ hz
          · exact h1 a b (by omega) z2 z3 z4)
        have hcm : gM_come M' i = bi (rch X i) := by
          rw [hW.1.1.2.2.1]
          exact hw i (by omega)
        rw [n_cl (j := i) (by omega), hcm]
        refine brf (fun q => absurd ((xc (a := 150) (b := i) (by omega) (by omega)).mp q) (by omega)) ⟨vp_in_nI (by omega) (by omega), bi_br (fun cr => ?_) (fun cr => skip (fun z => cr z.1))⟩
        refine brt rfl ?_
        refine m_takes hX hb1 (by omega) hv1 hf (bi_brn (fun cs => ?_) (fun cs => skip (fun z => cs z.2)))
        unfold wp_X7_walkLeaf_lost_113
        refine m_sc_losta hX hb (by omega) (fun q hq => fun C z1 z2 z3 => z2 i q cr cs hq) (by omega) hW (fun V2 O2 n2 M2 w1 w2 w3 => inc V2 O2 n2 M2 w1 (fun z => w2 0 (h0 z)) (fun a b z1 z2 z3 z4 => ?_))
        by_cases e : a = i
        · subst e; exact w3 b z4
        · exact w2 b (h1 a b (by omega) z2 z3 z4)
    exact ⟨_, key 150 0 (by omega) V O n M' hW h0 (fun a b z => by omega)⟩
  have key : ∀ (k i : Nat), i + k = 150 → ∀ M', kL (4 * v + f) M M' → (∀ j, j < i → gM_lost M' (64 * j + (4 * v + f)) = 0) → wp_X7_walkLeaf_lost_10 post (k + 1) (nI v) (nI f) 0 (nI (4 * v + f)) (nI i) M' := by
    intro k
    induction k with
    | zero =>
      intro i hi M' hk hz
      have e : i = 150 := by omega
      subst e
      show ws_X7_walkLeaf_lost_10 _ post _ _ _ _ _ M'
      unfold ws_X7_walkLeaf_lost_10
      refine brt (by decide) (fun S1 e1 => ⟨vp_in_nI (by omega) (by omega), ?_⟩)
      have hk1 : kL (4 * v + f) M S1 := by subst e1; exact hk
      have w0 : WX 150 (fun M b => gM_lost M (64 * b + (4 * v + f))) (lst X v f) (kL (4 * v + f) M) (fun _ => False) (fun _ => False) (2 * 150) (fun _ => False) (fun _ => False) 0 S1 := WX_init hk1 (by subst e1; rfl) (fun a ha => by subst e1; exact hz a ha)
      have hat : gM_atF S1 v = bi (x_af X v = true) := ((RMb_eq hk1.1 hb).1.2 v hv1).2.2
      rw [n_cl (by omega), hat]
      refine brn (fun c => h60 _ _ _ S1 w0 (fun z => c ?_)) (fun c => ?_)
      · rw [z]; exact bi_f (by decide)
      · have haf : x_af X v = false := by
          cases e : x_af X v
          · rfl
          · rw [e] at c; rw [bi_t rfl] at c; exact absurd c (by decide)
        have := m_come_lost (t := 4 * v + f) (a := 0) (M0 := M) (M := S1) (Cl := lst X v f) (post := fun S57 => wp_X7_walkLeaf_lost_60 post (nI v) (nI f) 0 (nI (4 * v + f)) S57) (by omega) (by omega) (fun C z1 _ _ => z1 haf) w0 (fun V' O' n' M2 w1 _ v0 => h60 V' O' n' M2 w1 (fun _ => v0))
        rw [show 64 * 0 + (4 * v + f) = 4 * v + f by omega] at this
        exact this
    | succ k ih =>
      intro i hi M' hk hz
      show ws_X7_walkLeaf_lost_10 _ post _ _ _ _ _ M'
      unfold ws_X7_walkLeaf_lost_10
      rw [n_64, n_cl (j := 64 * i + (4 * v + f)) (by omega)]
      refine brf (fun q => absurd ((xc (a := 150) (b := i) (by omega) (by omega)).mp q) (by omega)) ⟨vp_in_nI (by omega) (by omega), fun S2 e2 x e3 => ?_⟩
      subst e3
      rw [show nI i + (1 : Int32) = nI (i + 1) from nI_1 i]
      have g : gM_lost S2 = upd (gM_lost M') (64 * i + (4 * v + f)) 0 := by subst e2; rfl
      refine ih (i + 1) (by omega) S2 ⟨?_, ?_, ?_, ?_, ?_, fun j hj => ?_⟩ (fun j hj => ?_)
      · subst e2; exact hk.1
      · subst e2; exact hk.2.1
      · subst e2; exact hk.2.2.1
      · subst e2; exact hk.2.2.2.1
      · subst e2; exact hk.2.2.2.2.1
      · rw [g, u_n (hj i)]; exact hk.2.2.2.2.2 j hj
      · rw [g]
        by_cases e : j = i
        · subst e; exact u_s
        · rw [u_n (by omega)]; exact hz j (by omega)
  unfold wp_X7_walkLeaf_lost
  intro x5 e5
  rw [n_4q] at e5
  subst e5
  exact ⟨_, key 150 0 (by omega) M ⟨rfl, rfl, rfl, rfl, rfl, fun _ _ => rfl⟩ (fun j hj => by omega)⟩
theorem m_had_loop (hX : XI X) (hb : RMb M0 X) {v f : Nat} (hv1 : v < x_nv X) (hf : f < 4) {post : MS → Prop} (h : ∀ M', kD (4 * v + f) M0 M' → (∀ p, p < 150 → gM_had M' (64 * p + (4 * v + f)) = bi (hd X v f p)) → post M') {V O : Nat → Prop} {n : Nat} (hW : WD 150 (fun M b => gM_had M (64 * b + (4 * v + f))) (hd X v f) (kD (4 * v + f) M0) V O n M) (h0 : x_af X v = true → V 0) (h1 : ∀ a b, rch X a → gv X a v f → x_ed X a b = true → V b) (hc : ∀ a b, V a → ¬ O a → ¬ tk X a v f → x_ed X a b = true → V b) : ∃ n_, wp_X7_walkLeaf_had_186 post n_ (nI v) (nI f) 1 (nI (4 * v + f)) M := by
  have hnv := hX.1
  have key := lpm (α := Nat × MS) (fun n a => wp_X7_walkLeaf_had_186 post n (nI v) (nI f) 1 (nI (4 * v + f)) a.2) (fun a => ∃ V O n, WD 150 (fun M b => gM_had M (64 * b + (4 * v + f))) (hd X v f) (kD (4 * v + f) M0) V O n a.2 ∧ a.1 = 2 * (150 - cnt V 150) + n ∧ (x_af X v = true → V 0) ∧ (∀ a b, rch X a → gv X a v f → x_ed X a b = true → V b) ∧ (∀ a b, V a → ¬ O a → ¬ tk X a v f → x_ed X a b = true → V b)) (fun a => a.1) (fun k a hI ih => ?_)
  · exact key (2 * (150 - cnt V 150) + n, M) ⟨V, O, n, hW, rfl, h0, h1, hc⟩
  · clear h0 h1 hc hW
    obtain ⟨m, M⟩ := a
    obtain ⟨V, O, n, hW, em, h0, h1, hc⟩ := hI
    dsimp only at hW em ih ⊢
    show ws_X7_walkLeaf_had_186 _ post _ _ _ _ M
    have hn := WD_le hW
    unfold ws_X7_walkLeaf_had_186
    rw [hW.2.1]
    refine br (fun c => h M hW.1 (fun p hp => ?_)) (fun c S1 e1 => ?_)
    · have e := (n_le0 (by omega)).mp c
      subst e
      rw [show gM_had M (64 * p + (4 * v + f)) = bi (V p) from hW.2.2.1 p hp]
      exact bi_e ⟨fun z => (hW.2.2.2.2.1 p z).2, fun z => z V h0 h1 (fun a b ha hab => hc a b ha (WD_0 hW a ha) hab)⟩
    · have hn1 : 0 < n := by
        have : ¬ n = 0 := fun e => c ((n_le0 (by omega)).mpr e)
        omega
      obtain ⟨a, a1, a2, a3, a4, a5, a6⟩ := WD_pop hW hn1
      rw [show nI n - (1 : Int32) = nI (n - 1) from pk_sub (b := 1) hn1] at e1
      have p1 : gM_piled S1 = nI (n - 1) := by subst e1; rfl
      have l1 : gM_pile S1 = gM_pile M := by subst e1; rfl
      have w1 := a6 S1 (by subst e1; exact hW.1) p1 l1 (fun b _ => by subst e1; rfl)
      have hb1 : RMb S1 X := RMb_eq w1.1.1.1 hb
      rw [p1]
      refine ⟨vp_in_nI (by omega) (by omega), fun x6 ex => ?_⟩
      rw [n_cl (by omega), l1, a5] at ex
      subst ex
      refine brf (by decide) ?_
      refine m_takes hX hb1 a1 hv1 hf (bi_br (fun cg => ih (2 * (150 - cnt V 150) + (n - 1), S1) ⟨V, _, n - 1, w1.1, rfl, h0, h1, fun p q hp ho hg he => ?_⟩ (by show 2 * (150 - cnt V 150) + (n - 1) < m; omega)) (fun cg => ?_))
      · rcases w1.2.2.1 p hp ho with z | z
        · exact hc p q z.1 z.2 hg he
        · subst z; exact absurd cg hg
      · unfold wp_X7_walkLeaf_had_246
        refine m_sc_hadb hX hb a1 (fun q hq => fun C z1 z2 z3 => z3 a q (a2 C z1 z2 z3) cg hq) (by omega) w1 (fun V' O' n' M' w2 hs hq => ih (2 * (150 - cnt V' 150) + n', M') ⟨V', O', n', w2.1, rfl, fun z => hs 0 (h0 z), fun p q z1 z2 z3 => hs q (h1 p q z1 z2 z3), fun p q hp ho hg he => ?_⟩ ?_)
        · rcases w2.2.2.1 p hp ho with z | z
          · exact hs q (hc p q z.1 z.2 hg he)
          · subst z; exact hq q he
        · have := w2.2.2.2
          show 2 * (150 - cnt V' 150) + n' < m
          omega
theorem m_walkLeaf_had (hX : XI X) (hb : RMb M X) (hw : VMw M X) {v f : Nat} (hv1 : v < x_nv X) (hf : f < 4) {post : MS → Prop} (h : ∀ M', kD (4 * v + f) M M' → (∀ p, p < 150 → gM_had M' (64 * p + (4 * v + f)) = bi (hd X v f p)) → post M') : wp_X7_walkLeaf_had M (nI v) (nI f) 1 post := by
  have hnv := hX.1
  have h60 : ∀ V O n M', WX 150 (fun M b => gM_had M (64 * b + (4 * v + f))) (hd X v f) (kD (4 * v + f) M) (fun _ => False) (fun _ => False) (2 * 150) V O n M' → (x_af X v = true → V 0) → wp_X7_walkLeaf_had_60 post (nI v) (nI f) 1 (nI (4 * v + f)) M' := by
    intro V O n M' hW h0
    unfold wp_X7_walkLeaf_had_60
    have key : ∀ (k i : Nat), i + k = 150 → ∀ V O n M', WX 150 (fun M b => gM_had M (64 * b + (4 * v + f))) (hd X v f) (kD (4 * v + f) M) (fun _ => False) (fun _ => False) (2 * 150) V O n M' → (x_af X v = true → V 0) → (∀ a b, a < i → rch X a → gv X a v f → x_ed X a b = true → V b) → wp_X7_walkLeaf_had_63 post (k + 1) (nI v) (nI f) 1 (nI (4 * v + f)) (nI i) M' := by
      intro k
      induction k with
      | zero =>
        intro i hi V O n M' hW h0 h1
        have e : i = 150 := by omega
        subst e
        show ws_X7_walkLeaf_had_63 _ post _ _ _ _ _ M'
        unfold ws_X7_walkLeaf_had_63
        exact brt (by decide) (m_had_loop hX hb hv1 hf h hW.1 h0 (fun a b z1 z2 z3 => h1 a b (rch_lt hX z1) z1 z2 z3) (fun a b q1 q2 _ _ => (hW.2.2.1 a q1 q2).elim))
      | succ k ih =>
        intro i hi V O n M' hW h0 h1
        show ws_X7_walkLeaf_had_63 _ post _ _ _ _ _ M'
        unfold ws_X7_walkLeaf_had_63
        have hb1 : RMb M' X := RMb_eq hW.1.1.1 hb
        have inc : ∀ V2 O2 n2 M2, WX 150 (fun M b => gM_had M (64 * b + (4 * v + f))) (hd X v f) (kD (4 * v + f) M) (fun _ => False) (fun _ => False) (2 * 150) V2 O2 n2 M2 → (x_af X v = true → V2 0) → (∀ a b, a < i + 1 → rch X a → gv X a v f → x_ed X a b = true → V2 b) → wp_X7_walkLeaf_had_180 (wp_X7_walkLeaf_had_63 post (k + 1)) post (nI v) (nI f) 1 (nI (4 * v + f)) (nI i) M2 := fun V2 O2 n2 M2 z1 z2 z3 => by
          unfold wp_X7_walkLeaf_had_180
          intro y ey
          subst ey
          rw [show nI i + (1 : Int32) = nI (i + 1) from nI_1 i]
          exact ih (i + 1) (by omega) V2 O2 n2 M2 z1 z2 z3
        have skip : ¬ (rch X i ∧ gv X i v f) → wp_X7_walkLeaf_had_180 (wp_X7_walkLeaf_had_63 post (k + 1)) post (nI v) (nI f) 1 (nI (4 * v + f)) (nI i) M' := fun hz => inc V O n M' hW h0 (fun a b z1 z2 z3 z4 => by
          by_cases e : a = i
          · subst e; exact absurd ⟨z2, z3⟩ hz
          · exact h1 a b (by omega) z2 z3 z4)
        have hcm : gM_come M' i = bi (rch X i) := by
          rw [hW.1.1.2.2.1]
          exact hw i (by omega)
        rw [n_cl (j := i) (by omega), hcm]
        refine brf (fun q => absurd ((xc (a := 150) (b := i) (by omega) (by omega)).mp q) (by omega)) ⟨vp_in_nI (by omega) (by omega), bi_br (fun cr => ?_) (fun cr => skip (fun z => cr z.1))⟩
        refine brf (by decide) ?_
        refine m_gives hX hb1 (by omega) hv1 hf (bi_br (fun cs => ?_) (fun cs => skip (fun z => cs z.2)))
        unfold wp_X7_walkLeaf_had_113
        refine m_sc_hada hX hb (by omega) (fun q hq => fun C z1 z2 z3 => z2 i q cr cs hq) (by omega) hW (fun V2 O2 n2 M2 w1 w2 w3 => inc V2 O2 n2 M2 w1 (fun z => w2 0 (h0 z)) (fun a b z1 z2 z3 z4 => ?_))
        by_cases e : a = i
        · subst e; exact w3 b z4
        · exact w2 b (h1 a b (by omega) z2 z3 z4)
    exact ⟨_, key 150 0 (by omega) V O n M' hW h0 (fun a b z => by omega)⟩
  have key : ∀ (k i : Nat), i + k = 150 → ∀ M', kD (4 * v + f) M M' → (∀ j, j < i → gM_had M' (64 * j + (4 * v + f)) = 0) → wp_X7_walkLeaf_had_10 post (k + 1) (nI v) (nI f) 1 (nI (4 * v + f)) (nI i) M' := by
    intro k
    induction k with
    | zero =>
      intro i hi M' hk hz
      have e : i = 150 := by omega
      subst e
      show ws_X7_walkLeaf_had_10 _ post _ _ _ _ _ M'
      unfold ws_X7_walkLeaf_had_10
      refine brt (by decide) (fun S1 e1 => ⟨vp_in_nI (by omega) (by omega), ?_⟩)
      have hk1 : kD (4 * v + f) M S1 := by subst e1; exact hk
      have w0 : WX 150 (fun M b => gM_had M (64 * b + (4 * v + f))) (hd X v f) (kD (4 * v + f) M) (fun _ => False) (fun _ => False) (2 * 150) (fun _ => False) (fun _ => False) 0 S1 := WX_init hk1 (by subst e1; rfl) (fun a ha => by subst e1; exact hz a ha)
      have hat : gM_atF S1 v = bi (x_af X v = true) := ((RMb_eq hk1.1 hb).1.2 v hv1).2.2
      rw [n_cl (by omega), hat]
      refine brn (fun c => h60 _ _ _ S1 w0 (fun z => c ?_)) (fun c => ?_)
      · rw [z]; exact bi_t rfl
      · have haf : x_af X v = true := by
          cases e : x_af X v
          · rw [e] at c; rw [bi_f (by decide)] at c; exact absurd c (by decide)
          · rfl
        have := m_come_had (t := 4 * v + f) (a := 0) (M0 := M) (M := S1) (Cl := hd X v f) (post := fun S57 => wp_X7_walkLeaf_had_60 post (nI v) (nI f) 1 (nI (4 * v + f)) S57) (by omega) (by omega) (fun C z1 _ _ => z1 haf) w0 (fun V' O' n' M2 w1 _ v0 => h60 V' O' n' M2 w1 (fun _ => v0))
        rw [show 64 * 0 + (4 * v + f) = 4 * v + f by omega] at this
        exact this
    | succ k ih =>
      intro i hi M' hk hz
      show ws_X7_walkLeaf_had_10 _ post _ _ _ _ _ M'
      unfold ws_X7_walkLeaf_had_10
      rw [n_64, n_cl (j := 64 * i + (4 * v + f)) (by omega)]
      refine brf (fun q => absurd ((xc (a := 150) (b := i) (by omega) (by omega)).mp q) (by omega)) ⟨vp_in_nI (by omega) (by omega), fun S2 e2 x e3 => ?_⟩
      subst e3
      rw [show nI i + (1 : Int32) = nI (i + 1) from nI_1 i]
      have g : gM_had S2 = upd (gM_had M') (64 * i + (4 * v + f)) 0 := by subst e2; rfl
      refine ih (i + 1) (by omega) S2 ⟨?_, ?_, ?_, ?_, ?_, fun j hj => ?_⟩ (fun j hj => ?_)
      · subst e2; exact hk.1
      · subst e2; exact hk.2.1
      · subst e2; exact hk.2.2.1
      · subst e2; exact hk.2.2.2.1
      · subst e2; exact hk.2.2.2.2.1
      · rw [g, u_n (hj i)]; exact hk.2.2.2.2.2 j hj
      · rw [g]
        by_cases e : j = i
        · subst e; exact u_s
        · rw [u_n (by omega)]; exact hz j (by omega)
  unfold wp_X7_walkLeaf_had
  intro x5 e5
  rw [n_4q] at e5
  subst e5
  exact ⟨_, key 150 0 (by omega) M ⟨rfl, rfl, rfl, rfl, rfl, fun _ _ => rfl⟩ (fun j hj => by omega)⟩
end MLF

def kH (l : Nat) (M0 M : MS) : Prop := M.1 = M0.1 ∧ M.2.2.2 = M0.2.2.2 ∧ gM_come M = gM_come M0 ∧ gM_lost M = gM_lost M0 ∧ gM_had M = gM_had M0 ∧ gM_used M = gM_used M0 ∧ gM_rowOf M = gM_rowOf M0 ∧ ∀ i, (i < 2400 * l ∨ 2400 * l + 2400 ≤ i) → gM_holds M i = gM_holds M0 i
theorem n_cell {l q r : Nat} : ((150 : Int32) * nI l + nI q) * (16 : Int32) + nI r = nI (2400 * l + (16 * q + r)) := by
  rw [show (150 : Int32) * nI l = nI (150 * l) from pk_mul 150 l, nI_add, show nI (150 * l + q) * (16 : Int32) = nI ((150 * l + q) * 16) from pk_mul _ 16, nI_add]
  congr 1
  omega
theorem n_r16 {w : Nat} (h : w < 2 ^ 31) : nI w - nI w / (16 : Int32) * (16 : Int32) = nI (w % 16) := pk_rem (d := 16) h (by omega) (by omega)
theorem n_q16 {w : Nat} (h : w < 2 ^ 31) : nI w / (16 : Int32) = nI (w / 16) := pk_div (d := 16) h (by omega) (by omega)
def hn_ (X : XT) (L a : Nat) : Prop := hld X L (a / 16) (a % 16)
/-- one step of a loan, from cell to cell -/
def stH (X : XT) (L a b : Nat) : Prop := ¬ gone X L (a / 16) ∧ ((¬ rn X (a / 16) (a % 16) ∧ ∃ q, x_ed X (a / 16) q = true ∧ b = 16 * q + a % 16) ∨ (pas X (a / 16) (a % 16) ∧ ∃ q, x_ed X (a / 16) q = true ∧ b = 16 * q + x_to X (a / 16)))
section MLN
variable {M0 M : MS} {X : XT} {V0 D0 V O : Nat → Prop} {m0 n l L : Nat}
theorem m_spread (hX : XI X) (hb : RMb M0 X) (hL : L < 150) (hrow : gM_rowOf M0 L = nI l) (hl : l < 60) {p r : Nat} (hp : p < 150) (hr : r < 16) (hcl : ∀ q, x_ed X p q = true → hn_ X L (16 * q + r)) (hW : WX 2400 (fun M a => gM_holds M (2400 * l + a)) (hn_ X L) (kH l M0) V0 D0 m0 V O n M) {post : MS → Prop} (h : ∀ V' O' n' M', WX 2400 (fun M a => gM_holds M (2400 * l + a)) (hn_ X L) (kH l M0) V0 D0 m0 V' O' n' M' → (∀ b, V b → V' b) → (∀ q, x_ed X p q = true → V' (16 * q + r)) → post M') : wp_X7_spread M (nI L) (nI p) (nI r) post := by
  have key : ∀ (k i : Nat), i + k = 4 → ∀ V' O' n' M', WX 2400 (fun M a => gM_holds M (2400 * l + a)) (hn_ X L) (kH l M0) V0 D0 m0 V' O' n' M' → (∀ b, V b → V' b) → (∀ j q, j < i → gM_nexts M0 (4 * p + j) = nI q → q < 150 → V' (16 * q + r)) → wp_X7_spread_11 post (k + 1) (nI p) (nI r) (nI l) (nI i) M' := by
    intro k
    induction k with
    | zero =>
      intro i hi V' O' n' M' hW' hs hj
      have e : i = 4 := by omega
      subst e
      show ws_X7_spread_11 _ post _ _ _ _ M'
      unfold ws_X7_spread_11
      refine brt (by decide) (h V' O' n' M' hW' hs (fun q hq => ?_))
      obtain ⟨j, j1, j2⟩ := (hb.2.2 p hp).2.1 q hq
      exact hj j q j1 j2 (hX.2.2.2.1 p q hq).2
    | succ k ih =>
      intro i hi V' O' n' M' hW' hs hj
      show ws_X7_spread_11 _ post _ _ _ _ M'
      unfold ws_X7_spread_11
      have hnx : gM_nexts M' = gM_nexts M0 := by have := hW'.1.1.1; unfold gM_nexts; rw [this]
      have inc : ∀ V2 O2 n2 M2, WX 2400 (fun M a => gM_holds M (2400 * l + a)) (hn_ X L) (kH l M0) V0 D0 m0 V2 O2 n2 M2 → (∀ b, V b → V2 b) → (∀ j q, j < i + 1 → gM_nexts M0 (4 * p + j) = nI q → q < 150 → V2 (16 * q + r)) → wp_X7_spread_97 (wp_X7_spread_11 post (k + 1)) post (nI p) (nI r) (nI l) (nI i) M2 := fun V2 O2 n2 M2 z1 z2 z3 => by
        unfold wp_X7_spread_97
        intro y ey
        subst ey
        rw [show nI i + (1 : Int32) = nI (i + 1) from nI_1 i]
        exact ih (i + 1) (by omega) V2 O2 n2 M2 z1 z2 z3
      have hvi : vp_in (nI (4 * p + i)) 600 := vp_in_nI (by omega) (by omega)
      rw [n_4q, n_cl (by omega), hnx]
      refine brf (fun q => absurd ((xc (a := 4) (b := i) (by omega) (by omega)).mp q) (by omega)) ⟨hvi, fun x6 e6 => ?_⟩
      rcases (hb.2.2 p hp).1 i (by omega) with e | ⟨q, q1, q2, q3⟩
      · refine brt (by rw [e6, e]) (inc V' O' n' M' hW' hs (fun j q hji e2 hq => ?_))
        by_cases ej : j = i
        · subst ej; exact absurd (e2.symm.trans e) (n_m1 (by omega))
        · exact hj j q (by omega) e2 hq
      · rw [q2] at e6
        subst e6
        have hin : ∀ V2 O2 n2 M2, WX 2400 (fun M a => gM_holds M (2400 * l + a)) (hn_ X L) (kH l M0) V0 D0 m0 V2 O2 n2 M2 → (∀ b, V' b → V2 b) → V2 (16 * q + r) → wp_X7_spread_97 (wp_X7_spread_11 post (k + 1)) post (nI p) (nI r) (nI l) (nI i) M2 := fun V2 O2 n2 M2 w1 w2 w3 => inc V2 O2 n2 M2 w1 (fun b z => w2 b (hs b z)) (fun j q' hji e2 hq => by
          by_cases ej : j = i
          · subst ej
            have := n_inj (by omega) (by omega) (e2.symm.trans q2)
            subst this; exact w3
          · exact w2 _ (hj j q' (by omega) e2 hq))
        unfold wp_X7_cell
        rw [n_cell]
        dsimp only
        rw [n_cl (j := 2400 * l + (16 * q + r)) (by omega), n_16m]
        have ha : 16 * q + r < 2400 := by omega
        rw [show gM_holds M' (2400 * l + (16 * q + r)) = bi (V' (16 * q + r)) from hW'.1.2.2.1 _ ha]
        have hvc : vp_in (nI (2400 * l + (16 * q + r))) 360000 := vp_in_nI (by omega) (by omega)
        refine brf (n_m1 (by omega)) ⟨hvc, bi_br (fun c => hin V' O' n' M' hW' (fun _ z => z) c) (fun c => ⟨hvc, fun S1 e1 => ?_⟩)⟩
        have hn := WD_lt hW'.1 ha c
        have p1 : gM_piled S1 = nI n' := by subst e1; exact hW'.1.2.1
        rw [p1]
        refine ⟨vp_in_nI (by omega) (by omega), fun S2 e2 S3 e3 => ?_⟩
        rw [n_cl (by omega)] at e2
        have p2 : gM_piled S2 = nI n' := by subst e2; exact p1
        rw [p2, show nI n' + (1 : Int32) = nI (n' + 1) from nI_1 n'] at e3
        have g3 : gM_holds S3 = upd (gM_holds M') (2400 * l + (16 * q + r)) 1 := by subst e3; subst e2; subst e1; rfl
        have k3 : kH l M0 M' := hW'.1.1
        refine hin _ _ _ S3 (WX_push (by omega) hW' ha (hcl q q3) c ⟨?_, ?_, ?_, ?_, ?_, ?_, ?_, fun j hj => ?_⟩ (by subst e3; rfl) (by subst e3; subst e2; subst e1; rfl) (by show gM_holds S3 _ = _; rw [g3, u_s]) (fun b hb hba => by show gM_holds S3 _ = gM_holds M' _; rw [g3, u_n (by omega)])) (fun b z => Or.inl z) (Or.inr rfl)
        · subst e3; subst e2; subst e1; exact k3.1
        · subst e3; subst e2; subst e1; exact k3.2.1
        · subst e3; subst e2; subst e1; exact k3.2.2.1
        · subst e3; subst e2; subst e1; exact k3.2.2.2.1
        · subst e3; subst e2; subst e1; exact k3.2.2.2.2.1
        · subst e3; subst e2; subst e1; exact k3.2.2.2.2.2.1
        · subst e3; subst e2; subst e1; exact k3.2.2.2.2.2.2.1
        · rw [g3, u_n (by omega)]; exact k3.2.2.2.2.2.2.2 j hj
  unfold wp_X7_spread
  refine ⟨vp_in_nI (by omega) (by omega), fun x4 e4 => ?_⟩
  rw [n_cl (by omega), hW.1.1.2.2.2.2.2.2.1, hrow] at e4
  subst e4
  exact ⟨_, key 4 0 (by omega) V O n M hW (fun _ z => z) (fun j q hj => by omega)⟩
theorem m_loan_loop (hX : XI X) (hb : RMb M0 X) (hL : L < 150) (hml : ml X L) (hrow : gM_rowOf M0 L = nI l) (hl : l < 60) {post : MS → Prop} (h : ∀ M', kH l M0 M' → (∀ p r, p < 150 → r < 16 → gM_holds M' (2400 * l + 16 * p + r) = bi (hld X L p r)) → post M') (hW : WD 2400 (fun M a => gM_holds M (2400 * l + a)) (hn_ X L) (kH l M0) V O n M) (h0 : rch X L → x_of X L ≠ x_to X L → ∀ q, x_ed X L q = true → V (16 * q + x_to X L)) (hc : ∀ a b, V a → ¬ O a → stH X L a b → V b) : ∃ n_, wp_X7_walkLoan_76 post n_ (nI L) M := by
  have hnv := hX.1
  have key := lpm (α := Nat × MS) (fun n a => wp_X7_walkLoan_76 post n (nI L) a.2) (fun a => ∃ V O n, WD 2400 (fun M a => gM_holds M (2400 * l + a)) (hn_ X L) (kH l M0) V O n a.2 ∧ a.1 = 2 * (2400 - cnt V 2400) + n ∧ (rch X L → x_of X L ≠ x_to X L → ∀ q, x_ed X L q = true → V (16 * q + x_to X L)) ∧ (∀ a b, V a → ¬ O a → stH X L a b → V b)) (fun a => a.1) (fun k a hI ih => ?_)
  · exact key (2 * (2400 - cnt V 2400) + n, M) ⟨V, O, n, hW, rfl, h0, hc⟩
  · clear h0 hc hW
    obtain ⟨m, M⟩ := a
    obtain ⟨V, O, n, hW, em, h0, hc⟩ := hI
    dsimp only at hW em ih ⊢
    show ws_X7_walkLoan_76 _ post _ M
    have hn := WD_le hW
    unfold ws_X7_walkLoan_76
    rw [hW.2.1]
    refine br (fun c => h M hW.1 (fun p r hp hr => ?_)) (fun c S1 e1 => ?_)
    · have e := (n_le0 (by omega)).mp c
      subst e
      rw [Nat.add_assoc, show gM_holds M (2400 * l + (16 * p + r)) = bi (V (16 * p + r)) from hW.2.2.1 _ (by omega)]
      refine bi_e ⟨fun z => ?_, fun z => ?_⟩
      · have := (hW.2.2.2.2.1 _ z).2
        unfold hn_ at this
        rw [show (16 * p + r) / 16 = p by omega, show (16 * p + r) % 16 = r by omega] at this
        exact this
      · have := z (fun p r => V (16 * p + r) ∧ r < 16) (fun q1 q2 q hq => ⟨h0 q1 q2 q hq, ?_⟩) (fun a s q hC hg hrn he => ⟨hc (16 * a + s) _ hC.1 (WD_0 hW _ hC.1) ?_, hC.2⟩) (fun a s q hC hg hps he => ⟨hc (16 * a + s) _ hC.1 (WD_0 hW _ hC.1) ?_, ?_⟩)
        · exact this.1
        · have := (ok_to (hX.2.2.1 L hL) (Or.inl hml.1)).1
          omega
        · have hs := hC.2
          unfold stH
          rw [show (16 * a + s) / 16 = a by omega, show (16 * a + s) % 16 = s by omega]
          exact ⟨hg, Or.inl ⟨hrn, q, he, rfl⟩⟩
        · have hs := hC.2
          unfold stH
          rw [show (16 * a + s) / 16 = a by omega, show (16 * a + s) % 16 = s by omega]
          exact ⟨hg, Or.inr ⟨hps, q, he, rfl⟩⟩
        · have ha : a < 150 := (hX.2.2.2.1 a q he).1
          have h78 : x_ac X a = 7 ∨ x_ac X a = 8 := by rcases hps with q | q <;> omega
          have := (ok_to (hX.2.2.1 a ha) h78).1
          omega
    · have hn1 : 0 < n := by
        have : ¬ n = 0 := fun e => c ((n_le0 (by omega)).mpr e)
        omega
      obtain ⟨a, a1, a2, a3, a4, a5, a6⟩ := WD_pop hW hn1
      rw [show nI n - (1 : Int32) = nI (n - 1) from pk_sub (b := 1) hn1] at e1
      have p1 : gM_piled S1 = nI (n - 1) := by subst e1; rfl
      have l1 : gM_pile S1 = gM_pile M := by subst e1; rfl
      have w1 := a6 S1 (by subst e1; exact hW.1) p1 l1 (fun b _ => by subst e1; rfl)
      have hb1 : RMb S1 X := RMb_eq w1.1.1.1 hb
      rw [p1]
      have hvi : vp_in (nI (n - 1)) 2400 := vp_in_nI (by omega) (by omega)
      refine ⟨hvi, fun x3 e3 => ⟨hvi, fun x4 e4 => ?_⟩⟩
      rw [n_cl (by omega), l1, a5, n_q16 (by omega)] at e3
      rw [n_cl (by omega), l1, a5, n_r16 (by omega)] at e4
      obtain ⟨p, ep⟩ : ∃ p, p = a / 16 := ⟨_, rfl⟩
      obtain ⟨r, er⟩ : ∃ r, r = a % 16 := ⟨_, rfl⟩
      have hp : p < 150 := by omega
      have hr : r < 16 := by omega
      have hh : hld X L p r := by rw [ep, er]; exact a2
      obtain ⟨hrv, hrs, hrp⟩ := hld_ref hX hml hL hh
      rw [← ep] at e3
      rw [← er] at e4
      subst e3; subst e4
      have hk := hX.2.2.1 p hp
      have ha8 := ok_ac hk
      obtain ⟨b1, b2, b3⟩ := hb.2.1 p hp
      have hvp : vp_in (nI p) 150 := vp_in_nI (by omega) (by omega)
      -- the end of one turn: all cells that a leads to are marked
      have fin : ∀ V' O' n' M', WX 2400 (fun M a => gM_holds M (2400 * l + a)) (hn_ X L) (kH l M0) V (fun b => (V b ∧ ¬ O b) ∨ b = a) (2 * (2400 - cnt V 2400) + (n - 1)) V' O' n' M' → (∀ b, stH X L a b → V' b) → wp_X7_walkLoan_76 post k (nI L) M' := fun V' O' n' M' w2 hst => by
        refine ih (2 * (2400 - cnt V' 2400) + n', M') ⟨V', O', n', w2.1, rfl, fun q1 q2 q hq => w2.2.1 _ (h0 q1 q2 q hq), fun x y hx ho hxy => ?_⟩ ?_
        · rcases w2.2.2.1 x hx ho with z | z
          · exact w2.2.1 y (hc x y z.1 z.2 hxy)
          · subst z; exact hst y hxy
        · have := w2.2.2.2
          show 2 * (2400 - cnt V' 2400) + n' < m
          omega
      have h237 : ∀ V' O' n' M' x, WX 2400 (fun M a => gM_holds M (2400 * l + a)) (hn_ X L) (kH l M0) V (fun b => (V b ∧ ¬ O b) ∨ b = a) (2 * (2400 - cnt V 2400) + (n - 1)) V' O' n' M' → ¬ gone X L p → (¬ rn X p r → ∀ q, x_ed X p q = true → V' (16 * q + r)) → x = bi (pas X p r) → wp_X7_walkLoan_237 (wp_X7_walkLoan_76 post k) post (nI L) (nI p) x M' := fun V' O' n' M' x w2 hg hA ex => by
        subst ex
        unfold wp_X7_walkLoan_237 wp_X7_walkLoan_256
        refine bi_br (fun cp => ⟨hvp, ?_⟩) (fun cp => fin V' O' n' M' w2 (fun b hst => ?_))
        · have h78 : x_ac X p = 7 ∨ x_ac X p = 8 := by rcases cp with q | q <;> omega
          have ht := ok_to hk h78
          have hto : gM_to M' p = nI (x_to X p) := ((RMb_eq w2.1.1.1 hb).2.1 p hp).2.2 h78
          rw [n_cl (by omega), hto]
          refine m_spread hX hb hL hrow hl hp (by omega) (fun q hq => ?_) w2 (fun V2 O2 n2 M2 w3 hs hq => fin V2 O2 n2 M2 w3 (fun b hst => ?_))
          · unfold hn_
            have := ht.1
            rw [show (16 * q + x_to X p) / 16 = q by omega, show (16 * q + x_to X p) % 16 = x_to X p by omega]
            exact fun C z1 z2 z3 => z3 p r q (hh C z1 z2 z3) hg cp hq
          · rcases hst.2 with ⟨z1, q, z2, z3⟩ | ⟨z1, q, z2, z3⟩
            · rw [← ep, ← er] at z1
              rw [← ep] at z2
              rw [← er] at z3
              rw [z3]; exact hs _ (hA z1 q z2)
            · rw [← ep] at z2 z3
              rw [z3]; exact hq q z2
        · rcases hst.2 with ⟨z1, q, z2, z3⟩ | ⟨z1, q, z2, z3⟩
          · rw [← ep, ← er] at z1
            rw [← ep] at z2
            rw [← er] at z3
            rw [z3]; exact hA z1 q z2
          · rw [← ep, ← er] at z1
            exact absurd z1 cp
      have h173 : ∀ V' O' n' M', WX 2400 (fun M a => gM_holds M (2400 * l + a)) (hn_ X L) (kH l M0) V (fun b => (V b ∧ ¬ O b) ∨ b = a) (2 * (2400 - cnt V 2400) + (n - 1)) V' O' n' M' → ¬ gone X L p → (¬ rn X p r → ∀ q, x_ed X p q = true → V' (16 * q + r)) → wp_X7_walkLoan_173 (wp_X7_walkLoan_76 post k) post (nI L) (nI p) (nI r) M' := fun V' O' n' M' w2 hg hA => by
        have hbM : RMb M' X := RMb_eq w2.1.1.1 hb
        obtain ⟨c1, c2, c3⟩ := hbM.2.1 p hp
        have y1 : pas X p r → wp_X7_walkLoan_232 (fun x1 x3 k0 S => wp_X7_walkLoan_237 (wp_X7_walkLoan_76 post k) post x1 x3 k0 S) post (nI L) (nI p) M' := fun z => by
          unfold wp_X7_walkLoan_232
          exact h237 V' O' n' M' 1 w2 hg hA (bi_t z).symm
        have y0 : ¬ pas X p r → wp_X7_walkLoan_236 (fun x1 x3 k0 S => wp_X7_walkLoan_237 (wp_X7_walkLoan_76 post k) post x1 x3 k0 S) post (nI L) (nI p) M' := fun z => by
          unfold wp_X7_walkLoan_236
          exact h237 V' O' n' M' 0 w2 hg hA (bi_f z).symm
        have h195 : ¬ (x_ac X p = 8 ∧ x_of X p = r) → wp_X7_walkLoan_195 (fun x1 x3 S => wp_X7_walkLoan_232 (fun x1 x3 k0 S => wp_X7_walkLoan_237 (wp_X7_walkLoan_76 post k) post x1 x3 k0 S) post x1 x3 S) (fun x1 x3 k0 S => wp_X7_walkLoan_237 (wp_X7_walkLoan_76 post k) post x1 x3 k0 S) post (nI L) (nI p) (nI r) M' := fun hz => by
          unfold wp_X7_walkLoan_195
          rw [n_cl (by omega), c1, ek7 (by omega)]
          refine ⟨hvp, brn (fun c => y0 (fun z => z.elim hz (fun z => c z.1))) (fun c => ⟨hvp, ?_⟩)⟩
          have h0' : x_ac X p ≠ 0 := by omega
          have ho := ok_of hk h0'
          have hw := ok_pa hk h0'
          have hp7 := ok_p7 hk c
          rw [(c2 h0').1, (c2 h0').2, ekn (by omega) (by omega)]
          refine brn (fun c4 => y0 (fun z => z.elim hz (fun z => c4 z.2.1))) (fun c4 => ⟨hvp, m_isThrough hX hbM.1 hrv hw (bi_br (fun c5 => y1 (Or.inr ⟨c, c4, c5.1⟩)) (fun c5 => y0 (fun z => z.elim hz (fun z => c5 ⟨z.2.2, ?_⟩))))⟩)
          have := hp7 (by rw [c4]; exact z.2.2)
          omega
        unfold wp_X7_walkLoan_173
        rw [n_cl (by omega), c1, ek8 (by omega)]
        refine ⟨hvp, brn (fun c => h195 (fun z => c z.1)) (fun c => ⟨hvp, ?_⟩)⟩
        have h0' : x_ac X p ≠ 0 := by omega
        have ho := ok_of hk h0'
        rw [(c2 h0').1, ekn (by omega) (by omega)]
        exact br (fun c4 => y1 (Or.inl ⟨c, c4⟩)) (fun c4 => h195 (fun z => c4 z.2))
      have h148 : ∀ x, ¬ gone X L p → (x = nI r ↔ rn X p r) → wp_X7_walkLoan_148 (wp_X7_walkLoan_76 post k) post (nI L) (nI p) (nI r) x 0 S1 := fun x hg hx => by
        unfold wp_X7_walkLoan_148
        refine brt rfl (br (fun c => h173 _ _ _ S1 w1 hg (fun z => absurd (hx.mp c) z)) (fun c => ?_))
        have hrn : ¬ rn X p r := fun z => c (hx.mpr z)
        refine m_spread hX hb hL hrow hl hp hr (fun q hq => ?_) w1 (fun V2 O2 n2 M2 w3 hs hq => h173 V2 O2 n2 M2 w3 hg (fun _ => hq))
        unfold hn_
        rw [show (16 * q + r) / 16 = q by omega, show (16 * q + r) % 16 = r by omega]
        exact fun C z1 z2 z3 => z2 p r q (hh C z1 z2 z3) hg hrn hq
      refine m_renewed hX hb1 hp (fun hno => brt rfl ?_) (fun s hs1 hs2 hs3 hs4 => brf (n_m1 (by omega)) (m_goesThrough hX hb1 hL hml.1 hs1 (bi_br (fun cg => ?_) (fun cg => ?_))))
      · unfold wp_X7_walkLoan_147
        exact h148 (-1) (fun z => hno _ z.1 z.2) ⟨fun z => absurd z.symm (n_m1 (by omega)), fun z => absurd z (hno r hrs)⟩
      · unfold wp_X7_walkLoan_148
        refine brf (by decide) (fin _ _ _ S1 w1 (fun b hst => absurd ?_ hst.1))
        rw [← ep]
        refine ⟨by rw [cg.1]; exact cg.2, by rw [cg.1]; exact hs3⟩
      · unfold wp_X7_walkLoan_147
        refine h148 (nI s) (fun z => cg ⟨hs4 _ z.2, hs2⟩) ⟨fun z => ?_, fun z => by rw [hs4 r z]⟩
        have := n_inj (by omega) (by omega) z
        rw [← this]; exact hs3
theorem m_walkLoan (hX : XI X) (hb : RMb M X) (hw : VMw M X) (hL : L < 150) (hml : ml X L) (hrow : gM_rowOf M L = nI l) (hl : l < 60) {post : MS → Prop} (h : ∀ M', kH l M M' → (∀ p r, p < 150 → r < 16 → gM_holds M' (2400 * l + 16 * p + r) = bi (hld X L p r)) → post M') : wp_X7_walkLoan M (nI L) post := by
  have hnv := hX.1
  have hvl : vp_in (nI L) 150 := vp_in_nI (by omega) (by omega)
  have ht := ok_to (hX.2.2.1 L hL) (Or.inl hml.1)
  have key : ∀ (k i : Nat), i + k = 2400 → ∀ M', kH l M M' → gM_piled M' = 0 → (∀ j, j < i → gM_holds M' (2400 * l + j) = 0) → wp_X7_walkLoan_14 post (k + 1) (nI L) (nI l) (nI i) M' := by
    intro k
    induction k with
    | zero =>
      intro i hi M' hk hpl hz
      have e : i = 2400 := by omega
      subst e
      show ws_X7_walkLoan_14 _ post _ _ _ M'
      unfold ws_X7_walkLoan_14
      have hb1 : RMb M' X := RMb_eq hk.1 hb
      have hcm : gM_come M' L = bi (rch X L) := by rw [hk.2.2.1]; exact hw L hL
      have hto : gM_to M' L = nI (x_to X L) := (hb1.2.1 L hL).2.2 (Or.inl hml.1)
      have w0 : WX 2400 (fun M a => gM_holds M (2400 * l + a)) (hn_ X L) (kH l M) (fun _ => False) (fun _ => False) (2 * 2400) (fun _ => False) (fun _ => False) 0 M' := WX_init hk hpl (fun a ha => hz a ha)
      rw [n_cl (by omega), hcm, hto]
      refine brt (by decide) ⟨hvl, bi_brn (fun cr => ⟨hvl, m_goesThrough hX hb1 hL hml.1 ht.1 (bi_brn (fun cg => ?_) (fun cg => ⟨hvl, ?_⟩))⟩) (fun cr => h M' hk (fun p r hp hr => ?_))⟩
      · exact m_loan_loop hX hb hL hml hrow hl h w0.1 (fun _ z => absurd cg.1 z) (fun a b z => z.elim)
      · rw [hto]
        refine m_spread hX hb hL hrow hl hL (by omega) (fun q hq => ?_) w0 (fun V2 O2 n2 M2 w3 hs hq => m_loan_loop hX hb hL hml hrow hl h w3.1 (fun _ _ => hq) (fun a b z1 z2 => (w3.2.2.1 a z1 z2).elim))
        unfold hn_
        have := ht.1
        rw [show (16 * q + x_to X L) / 16 = q by omega, show (16 * q + x_to X L) % 16 = x_to X L by omega]
        exact fun C z1 z2 z3 => z1 cr (fun e => cg ⟨e, ht.2⟩) q hq
      · rw [Nat.add_assoc, hz (16 * p + r) (by omega), bi_f]
        exact fun z => z (fun _ _ => False) (fun q => absurd q cr) (fun _ _ _ q => q.elim) (fun _ _ _ q => q.elim)
    | succ k ih =>
      intro i hi M' hk hpl hz
      show ws_X7_walkLoan_14 _ post _ _ _ M'
      unfold ws_X7_walkLoan_14
      rw [show (2400 : Int32) * nI l + nI i = nI (2400 * l + i) by rw [show (2400 : Int32) * nI l = nI (2400 * l) from pk_mul 2400 l, nI_add], n_cl (j := 2400 * l + i) (by omega)]
      refine brf (fun q => absurd ((xc (a := 2400) (b := i) (by omega) (by omega)).mp q) (by omega)) ⟨vp_in_nI (by omega) (by omega), fun S2 e2 x e3 => ?_⟩
      subst e3
      rw [show nI i + (1 : Int32) = nI (i + 1) from nI_1 i]
      have g : gM_holds S2 = upd (gM_holds M') (2400 * l + i) 0 := by subst e2; rfl
      refine ih (i + 1) (by omega) S2 ⟨?_, ?_, ?_, ?_, ?_, ?_, ?_, fun j hj => ?_⟩ (by subst e2; exact hpl) (fun j hj => ?_)
      · subst e2; exact hk.1
      · subst e2; exact hk.2.1
      · subst e2; exact hk.2.2.1
      · subst e2; exact hk.2.2.2.1
      · subst e2; exact hk.2.2.2.2.1
      · subst e2; exact hk.2.2.2.2.2.1
      · subst e2; exact hk.2.2.2.2.2.2.1
      · rw [g, u_n (by omega)]; exact hk.2.2.2.2.2.2.2 j hj
      · rw [g]
        by_cases e : j = i
        · subst e; exact u_s
        · rw [u_n (by omega)]; exact hz j (by omega)
  unfold wp_X7_walkLoan
  intro S1 e1
  refine ⟨hvl, fun x2 e2 => ?_⟩
  have hr1 : gM_rowOf S1 L = nI l := by subst e1; exact hrow
  rw [n_cl (by omega), hr1] at e2
  subst e2
  exact ⟨_, key 2400 0 (by omega) S1 (by subst e1; exact ⟨rfl, rfl, rfl, rfl, rfl, rfl, rfl, fun _ _ => rfl⟩) (by subst e1; rfl) (fun j hj => by omega)⟩
end MLN

def kF (p : Nat) (M0 M : MS) : Prop := M.1 = M0.1 ∧ gM_isOld M = gM_isOld M0 ∧ gM_come M = gM_come M0 ∧ gM_lost M = gM_lost M0 ∧ gM_had M = gM_had M0 ∧ gM_used M = gM_used M0 ∧ gM_rowOf M = gM_rowOf M0 ∧ gM_holds M = gM_holds M0 ∧ ∀ i, (∀ l, i ≠ 150 * l + p) → gM_force M i = gM_force M0 i
def LK (X : XT) (p : Nat) (M0 M : MS) : Prop := kF p M0 M ∧ (∀ l, l < 150 → ml X l → gM_force M (150 * l + p) = bi (frc X l p)) ∧ gM_clashing M = gM_clashing M0 + bi (clp X p) ∧ gM_lacking M = gM_lacking M0 + bi (lks X p) ∧
  (lks X p → gM_fault M = 3 ∧ gM_faultP M = nI p) ∧
  (¬ lks X p → gM_fault M0 = 3 → gM_fault M = 3 ∧ gM_faultP M = gM_faultP M0) ∧
  (¬ lks X p → ¬ gM_fault M0 = 3 → clp X p → gM_fault M = 4 ∧ gM_faultP M = nI p ∧ gM_otherP M = lea (fun l => cla X l p) 150) ∧
  (¬ lks X p → ¬ gM_fault M0 = 3 → ¬ clp X p → gM_fault M = gM_fault M0 ∧ gM_faultP M = gM_faultP M0 ∧ gM_otherP M = gM_otherP M0)
theorem n_150 {p i : Nat} : (150 : Int32) * nI p + nI i = nI (150 * p + i) := by
  rw [show (150 : Int32) * nI p = nI (150 * p) from pk_mul 150 p, nI_add]
section MLK
variable {M : MS} {X : XT} {p : Nat}
theorem VMw_eq {M M' : MS} (h : gM_come M' = gM_come M) (q : VMw M X) : VMw M' X := by unfold VMw at *; rw [h]; exact q
theorem VMe_eq {M M' : MS} (h : gM_lost M' = gM_lost M) (h2 : gM_had M' = gM_had M) (q : VMe M X) : VMe M' X := by unfold VMe at *; rw [h, h2]; exact q
theorem VMu_eq {M M' : MS} (h : gM_used M' = gM_used M) (q : VMu M X) : VMu M' X := by unfold VMu at *; rw [h]; exact q
theorem VMh_eq {M M' : MS} (h : gM_rowOf M' = gM_rowOf M) (h2 : gM_holds M' = gM_holds M) (q : VMh M X) : VMh M' X := by unfold VMh at *; rw [h, h2]; exact q
theorem lks_lck (hX : XI X) {p : Nat} (hr : rch X p) : lea (lck X p) 4 = -1 ↔ ¬ lks X p := by
  have hp := rch_lt hX hr
  rcases lea_cases (lck X p) 4 with ⟨k, k1, k2, k3, k4⟩ | ⟨k1, k2⟩
  · rw [k4]
    exact ⟨fun z => absurd z (n_m1 (by omega)), fun z => absurd ⟨hr, k, k2⟩ z⟩
  · rw [k2]
    refine ⟨fun _ z => ?_, fun _ => rfl⟩
    obtain ⟨_, f, hf⟩ := z
    have ho := ok_of (hX.2.2.1 p hp) hf.1
    have h4 := hX.2.1 _ ho
    exact k1 f (by have := hf.2.1; omega) hf
theorem clp_cla {p : Nat} (hr : rch X p) : lea (fun l => cla X l p) 150 = -1 ↔ ¬ clp X p := by
  rcases lea_cases (fun l => cla X l p) 150 with ⟨k, k1, k2, k3, k4⟩ | ⟨k1, k2⟩
  · rw [k4]
    exact ⟨fun z => absurd z (n_m1 (by omega)), fun z => absurd ⟨hr, k, k2⟩ z⟩
  · rw [k2]
    exact ⟨fun _ ⟨_, l, hl⟩ => k1 l hl.1 hl, fun _ => rfl⟩
theorem m_look (hX : XI X) (hb : RMb M X) (hw : VMw M X) (he : VMe M X) (hu : VMu M X) (hh : VMh M X) (hr : rch X p) {post : MS → Prop} (h : ∀ M', LK X p M M' → post M') : wp_X7_look M (nI p) post := by
  have hp := rch_lt hX hr
  -- from the end of the loop on
  have h120 : ∀ M', kF p M M' → (∀ l, l < 150 → ml X l → gM_force M' (150 * l + p) = bi (frc X l p)) → gM_clashing M' = gM_clashing M + bi (clp X p) → gM_lacking M' = gM_lacking M → (gM_fault M = 3 → gM_fault M' = 3 ∧ gM_faultP M' = gM_faultP M) → (¬ gM_fault M = 3 → clp X p → gM_fault M' = 4 ∧ gM_faultP M' = nI p ∧ gM_otherP M' = lea (fun l => cla X l p) 150) → (¬ gM_fault M = 3 → ¬ clp X p → gM_fault M' = gM_fault M ∧ gM_faultP M' = gM_faultP M ∧ gM_otherP M' = gM_otherP M) → wp_X7_look_120 post (nI p) M' := by
    intro M' k1 k2 k3 k4 k5 k6 k7
    unfold wp_X7_look_120
    refine m_lackedBy hX (RMb_eq k1.1 hb) (VMe_eq k1.2.2.2.1 k1.2.2.2.2.1 he) hp (brn (fun c => ?_) (fun c => ?_))
    · have hl : lks X p := Classical.byContradiction (fun z => c ((lks_lck hX hr).mpr z))
      intro S1 e1 S2 e2 S3 e3
      refine h S3 ⟨?_, ?_, ?_, ?_, fun _ => ?_, fun z => absurd hl z, fun z => absurd hl z, fun z => absurd hl z⟩
      · subst e3; subst e2; subst e1; exact k1
      · subst e3; subst e2; subst e1; exact k2
      · subst e3; subst e2; subst e1; exact k3
      · rw [bi_t hl, ← k4]; subst e3; subst e2; subst e1; rfl
      · subst e3; subst e2; subst e1; exact ⟨rfl, rfl⟩
    · have hl : ¬ lks X p := (lks_lck hX hr).mp c
      refine h M' ⟨k1, k2, k3, ?_, fun z => absurd z hl, fun _ => k5, fun _ => k6, fun _ => k7⟩
      rw [bi_f hl, k4]
      exact (Int32.add_zero _).symm
  have h88 : ∀ M' x, x = lea (fun l => cla X l p) 150 → kF p M M' → M'.2.2.2 = M.2.2.2 → (∀ l, l < 150 → ml X l → gM_force M' (150 * l + p) = bi (frc X l p)) → wp_X7_look_88 post (nI p) x (bi (clp X p)) (gM_clashing M') M' := by
    intro M' x ex k1 kf k2
    have f1 : gM_clashing M' = gM_clashing M := by unfold gM_clashing; rw [kf]
    have f2 : gM_lacking M' = gM_lacking M := by unfold gM_lacking; rw [kf]
    have f3 : gM_fault M' = gM_fault M := by unfold gM_fault; rw [kf]
    have f4 : gM_faultP M' = gM_faultP M := by unfold gM_faultP; rw [kf]
    have f5 : gM_otherP M' = gM_otherP M := by unfold gM_otherP; rw [kf]
    unfold wp_X7_look_88
    intro S1 e1
    have q1 : kF p M S1 := by subst e1; exact k1
    have q2 : ∀ l, l < 150 → ml X l → gM_force S1 (150 * l + p) = bi (frc X l p) := by subst e1; exact k2
    have q3 : gM_clashing S1 = gM_clashing M + bi (clp X p) := by rw [← f1]; subst e1; rfl
    have q4 : gM_lacking S1 = gM_lacking M := by rw [← f2]; subst e1; rfl
    have q5 : gM_fault S1 = gM_fault M := by rw [← f3]; subst e1; rfl
    have q6 : gM_faultP S1 = gM_faultP M := by rw [← f4]; subst e1; rfl
    have q7 : gM_otherP S1 = gM_otherP M := by rw [← f5]; subst e1; rfl
    rw [q5, ex]
    refine br (fun c => ?_) (fun c => br (fun c2 => ?_) (fun c2 S2 e2 S3 e3 S4 e4 => ?_))
    · have hc := (clp_cla hr).mp c
      exact h120 S1 q1 q2 q3 q4 (fun z => ⟨q5.trans z, q6⟩) (fun _ z => absurd z hc) (fun _ _ => ⟨q5, q6, q7⟩)
    · exact h120 S1 q1 q2 q3 q4 (fun z => ⟨q5.trans z, q6⟩) (fun z => absurd c2 z) (fun z => absurd c2 z)
    · have hc : clp X p := Classical.byContradiction (fun z => c ((clp_cla hr).mpr z))
      refine h120 S4 ?_ ?_ ?_ ?_ (fun z => absurd z c2) (fun _ _ => ?_) (fun _ z => absurd hc z)
      · subst e4; subst e3; subst e2; exact q1
      · subst e4; subst e3; subst e2; exact q2
      · subst e4; subst e3; subst e2; exact q3
      · subst e4; subst e3; subst e2; exact q4
      · subst e4; subst e3; subst e2; exact ⟨rfl, rfl, rfl⟩
  have key : ∀ (c : Nat), c ≤ 150 → ∀ x M', kF p M M' → M'.2.2.2 = M.2.2.2 → (∀ l, c ≤ l → l < 150 → ml X l → gM_force M' (150 * l + p) = bi (frc X l p)) → x = lea (fun l => c ≤ l ∧ cla X l p) 150 → wp_X7_look_6 post (c + 1) (nI p) x (nI c + (-1 : Int32)) M' := by
    intro c
    induction c with
    | zero =>
      intro hc x M' k1 kf k2 ex
      show ws_X7_look_6 _ post _ _ _ M'
      unfold ws_X7_look_6
      have ex2 : x = lea (fun l => cla X l p) 150 := by
        rw [ex]
        exact lea_congr (fun k _ => ⟨fun z => z.2, fun z => ⟨by omega, z⟩⟩)
      have hg := h88 M' x ex2 k1 kf (fun l hl => k2 l (by omega) hl)
      refine brt (by decide) (br (fun c => ?_) (fun c => ?_))
      · rw [bi_f ((clp_cla hr).mp (by rw [← ex2]; exact c))] at hg
        exact hg
      · rw [bi_t (Classical.byContradiction (fun z => c (by rw [ex2]; exact (clp_cla hr).mpr z)))] at hg
        exact hg
    | succ l ih =>
      intro hc x M' k1 kf k2 ex
      show ws_X7_look_6 _ post _ _ _ M'
      rw [n_dn]
      unfold ws_X7_look_6
      have hl : l < 150 := by omega
      have hb1 : RMb M' X := RMb_eq k1.1 hb
      have hw1 : VMw M' X := VMw_eq k1.2.2.1 hw
      have hu1 : VMu M' X := VMu_eq k1.2.2.2.2.2.1 hu
      have hh1 : VMh M' X := VMh_eq k1.2.2.2.2.2.2.1 k1.2.2.2.2.2.2.2.1 hh
      have inc : ∀ x2 M2, kF p M M2 → M2.2.2.2 = M.2.2.2 → (∀ j, l ≤ j → j < 150 → ml X j → gM_force M2 (150 * j + p) = bi (frc X j p)) → x2 = lea (fun j => l ≤ j ∧ cla X j p) 150 → wp_X7_look_67 (wp_X7_look_6 post (l + 1)) post (nI p) x2 (nI l) M2 := fun x2 M2 z1 z2 z3 z4 => by
        unfold wp_X7_look_67
        intro y ey
        subst ey
        exact ih (by omega) x2 M2 z1 z2 z3 z4
      have same : ¬ cla X l p → x = lea (fun j => l ≤ j ∧ cla X j p) 150 := fun z => by
        rw [ex]
        refine lea_congr (fun k _ => ⟨fun q => ⟨by omega, q.2⟩, fun q => ⟨?_, q.2⟩⟩)
        by_cases e : k = l
        · subst e; exact absurd q.2 z
        · omega
      rw [n_cl (j := l) (by omega)]
      refine brf (xn (by omega)) ⟨vp_in_nI (by omega) (by omega), ?_⟩
      by_cases hml : ml X l
      · rw [((hh1 l hl).2 hml).1]
        have h60 := Nat.lt_of_lt_of_le (cnt_lt_of (P := ml X) (a := l) (b := 150) hl hml) (ml_60 hX)
        refine brnt (n_m1 (by omega)) (m_isInForce hX hb1 hw1 hu1 hh1 hp hl hml ?_)
        rw [n_150, n_cl (j := 150 * l + p) (by omega), nb_i (bi_b _)]
        have hvi : vp_in (nI (150 * l + p)) 22500 := vp_in_nI (by omega) (by omega)
        refine ⟨hvi, fun S1 e1 => ⟨hvi, ?_⟩⟩
        have g1 : gM_force S1 = upd (gM_force M') (150 * l + p) (bi (frc X l p)) := by subst e1; rfl
        have q1 : kF p M S1 := by
          refine ⟨?_, ?_, ?_, ?_, ?_, ?_, ?_, ?_, fun i hi => ?_⟩
          · subst e1; exact k1.1
          · subst e1; exact k1.2.1
          · subst e1; exact k1.2.2.1
          · subst e1; exact k1.2.2.2.1
          · subst e1; exact k1.2.2.2.2.1
          · subst e1; exact k1.2.2.2.2.2.1
          · subst e1; exact k1.2.2.2.2.2.2.1
          · subst e1; exact k1.2.2.2.2.2.2.2.1
          · rw [g1, u_n (hi l)]; exact k1.2.2.2.2.2.2.2.2 i hi
        have qf : S1.2.2.2 = M.2.2.2 := by subst e1; exact kf
        have q2 : ∀ j, l ≤ j → j < 150 → ml X j → gM_force S1 (150 * j + p) = bi (frc X j p) := fun j hj hj2 hjm => by
          rw [g1]
          by_cases e : j = l
          · subst e; rw [u_s]
          · rw [u_n (by omega)]; exact k2 j (by omega) hj2 hjm
        rw [g1, u_s]
        refine bi_br (fun cf => m_clashes hX (RMb_eq q1.1 hb) hl hml.1 hp (bi_br (fun cc => inc (nI l) S1 q1 qf q2 ?_) (fun cc => inc x S1 q1 qf q2 (same (fun z => cc z.2.2.2))))) (fun cf => inc x S1 q1 qf q2 (same (fun z => cf z.2.2.1)))
        rw [lea_eq (P := fun j => l ≤ j ∧ cla X j p) hl ⟨Nat.le_refl _, hl, hml, cf, cc⟩ (fun j hj z => by omega)]
      · rw [(hh1 l hl).1 hml]
        refine brnf rfl (inc x M' k1 kf (fun j hj hj2 hjm => ?_) (same (fun z => hml z.2.1)))
        by_cases e : j = l
        · subst e; exact absurd hjm hml
        · exact k2 j (by omega) hj2 hjm
  have := key 150 (Nat.le_refl _) (-1) M ⟨rfl, rfl, rfl, rfl, rfl, rfl, rfl, rfl, fun _ _ => rfl⟩ rfl (fun l h1 h2 => by omega) (lea_no (fun k hk z => by omega)).symm
  exact ⟨_, this⟩
end MLK

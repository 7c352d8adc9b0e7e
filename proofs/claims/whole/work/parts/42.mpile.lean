/-! a search with a pile: V the marked, O those of them that lie on the pile -/
def WD (N : Nat) (g : MS → Nat → Int32) (Cl : Nat → Prop) (kp : MS → Prop) (V O : Nat → Prop) (n : Nat) (M : MS) : Prop :=
  kp M ∧ gM_piled M = nI n ∧ (∀ a, a < N → g M a = bi (V a)) ∧ (∀ a, O a → V a) ∧ (∀ a, V a → a < N ∧ Cl a) ∧ n = cnt O N ∧ (∀ i, i < n → ∃ a, gM_pile M i = nI a ∧ O a) ∧ (∀ i j, i < n → j < n → gM_pile M i = gM_pile M j → i = j)
def WX (N : Nat) (g : MS → Nat → Int32) (Cl : Nat → Prop) (kp : MS → Prop) (V0 D0 : Nat → Prop) (m0 : Nat) (V O : Nat → Prop) (n : Nat) (M : MS) : Prop :=
  WD N g Cl kp V O n M ∧ (∀ b, V0 b → V b) ∧ (∀ b, V b → ¬ O b → D0 b) ∧ 2 * (N - cnt V N) + n ≤ m0
theorem cnt_F (n : Nat) : cnt (fun _ => False) n = 0 := by
  induction n with
  | zero => rfl
  | succ n ih => rw [cnt_s_f (P := fun _ => False) (fun z => z), ih]
section PIL
variable {N : Nat} {g : MS → Nat → Int32} {Cl : Nat → Prop} {kp : MS → Prop} {V0 D0 V O : Nat → Prop} {m0 n : Nat} {M : MS}
theorem WX_init (hk : kp M) (h1 : gM_piled M = 0) (h2 : ∀ a, a < N → g M a = 0) : WX N g Cl kp (fun _ => False) (fun _ => False) (2 * N) (fun _ => False) (fun _ => False) 0 M := by
  refine ⟨⟨hk, h1, fun a ha => ?_, fun _ z => z, fun _ z => z.elim, (cnt_F N).symm, fun i hi => by omega, fun i j hi => by omega⟩, fun _ z => z, fun _ z => z.elim, ?_⟩
  · rw [h2 a ha, bi_f (fun z => z)]
  · rw [cnt_F]; omega
theorem WX_push (hN : N ≤ 2400) (hW : WX N g Cl kp V0 D0 m0 V O n M) {a : Nat} (ha : a < N) (hc : Cl a) (hv : ¬ V a) {M' : MS} (hk : kp M') (e1 : gM_piled M' = nI (n + 1)) (e2 : gM_pile M' = upd (gM_pile M) n (nI a)) (e3 : g M' a = 1) (e4 : ∀ b, b < N → b ≠ a → g M' b = g M b) : WX N g Cl kp V0 D0 m0 (fun b => V b ∨ b = a) (fun b => O b ∨ b = a) (n + 1) M' := by
  obtain ⟨⟨k1, k2, k3, k4, k5, k6, k7, k8⟩, w1, w2, w3⟩ := hW
  have hlt := cnt_lt (P := V) ha hv
  refine ⟨⟨hk, e1, fun b hb => ?_, fun b hb => ?_, fun b hb => ?_, ?_, fun i hi => ?_, fun i j hi hj e => ?_⟩, fun b hb => Or.inl (w1 b hb), fun b hb ho => ?_, ?_⟩
  · by_cases e : b = a
    · subst e; rw [e3, bi_t (Or.inr rfl)]
    · rw [e4 b hb e, k3 b hb]
      exact bi_e ⟨Or.inl, fun z => z.elim id (fun z => absurd z e)⟩
  · exact hb.elim (fun z => Or.inl (k4 b z)) Or.inr
  · rcases hb with z | z
    · exact k5 b z
    · subst z; exact ⟨ha, hc⟩
  · rw [k6, ← cnt_add (P := O) ha (fun z => hv (k4 a z))]
  · rw [e2]
    by_cases ei : i = n
    · subst ei; rw [u_s]; exact ⟨a, rfl, Or.inr rfl⟩
    · rw [u_n ei]
      obtain ⟨b, b1, b2⟩ := k7 i (by omega)
      exact ⟨b, b1, Or.inl b2⟩
  · rw [e2] at e
    have hne : ∀ i, i < n → gM_pile M i ≠ nI a := fun i hi z => by
      obtain ⟨b, b1, b2⟩ := k7 i hi
      have hb := (k5 b (k4 b b2)).1
      have := n_inj (by omega) (by omega) (z.symm.trans b1)
      rw [this] at hv
      exact hv (k4 b b2)
    by_cases ei : i = n
    · subst ei
      rw [u_s] at e
      by_cases ej : j = i
      · exact ej.symm
      · rw [u_n ej] at e
        exact absurd e.symm (hne j (by omega))
    · rw [u_n ei] at e
      by_cases ej : j = n
      · subst ej
        rw [u_s] at e
        exact absurd e (hne i (by omega))
      · rw [u_n ej] at e
        exact k8 i j (by omega) (by omega) e
  · rcases hb with z | z
    · exact w2 b z (fun y => ho (Or.inl y))
    · exact absurd (Or.inr z) ho
  · rw [cnt_add (P := V) ha hv]; omega
theorem WD_lt (hW : WD N g Cl kp V O n M) {a : Nat} (ha : a < N) (hv : ¬ V a) : n < N := by
  rw [hW.2.2.2.2.2.1]
  exact cnt_lt ha (fun z => hv (hW.2.2.2.1 a z))
theorem WD_le (hW : WD N g Cl kp V O n M) : n ≤ N := by rw [hW.2.2.2.2.2.1]; exact cnt_le _ _
theorem WD_pop (hW : WD N g Cl kp V O n M) (h0 : 0 < n) : ∃ a, a < N ∧ Cl a ∧ V a ∧ O a ∧ gM_pile M (n - 1) = nI a ∧ ∀ M', kp M' → gM_piled M' = nI (n - 1) → gM_pile M' = gM_pile M → (∀ b, b < N → g M' b = g M b) → WX N g Cl kp V (fun b => (V b ∧ ¬ O b) ∨ b = a) (2 * (N - cnt V N) + (n - 1)) V (fun b => O b ∧ b ≠ a) (n - 1) M' := by
  obtain ⟨k1, k2, k3, k4, k5, k6, k7, k8⟩ := hW
  obtain ⟨a, a1, a2⟩ := k7 (n - 1) (by omega)
  obtain ⟨a3, a4⟩ := k5 a (k4 a a2)
  refine ⟨a, a3, a4, k4 a a2, a2, a1, fun M' q1 q2 q3 q4 => ⟨⟨q1, q2, fun b hb => by rw [q4 b hb]; exact k3 b hb, fun b z => k4 b z.1, k5, ?_, fun i hi => ?_, fun i j hi hj e => ?_⟩, fun b z => z, fun b z1 z2 => ?_, by omega⟩⟩
  · have := cnt_del (P := O) a3 a2
    omega
  · rw [q3]
    obtain ⟨b, b1, b2⟩ := k7 i (by omega)
    refine ⟨b, b1, b2, fun z => ?_⟩
    subst z
    have := k8 i (n - 1) (by omega) (by omega) (b1.trans a1.symm)
    omega
  · rw [q3] at e
    exact k8 i j (by omega) (by omega) e
  · by_cases e : b = a
    · exact Or.inr e
    · exact Or.inl ⟨z1, fun z => z2 ⟨z, e⟩⟩
theorem WD_0 (hW : WD N g Cl kp V O 0 M) : ∀ a, V a → ¬ O a := fun a hv ho => cnt_0 hW.2.2.2.2.2.1.symm a (hW.2.2.2.2.1 a hv).1 ho
end PIL
theorem n_64 {p i : Nat} : (64 : Int32) * nI p + nI i = nI (64 * p + i) := by
  rw [show (64 : Int32) * nI p = nI (64 * p) from pk_mul 64 p, nI_add]
theorem n_16m {p i : Nat} : (16 : Int32) * nI p + nI i = nI (16 * p + i) := by
  rw [show (16 : Int32) * nI p = nI (16 * p) from pk_mul 16 p, nI_add]
/-! what the walks leave as it is -/
def kC (M0 M : MS) : Prop := M.1 = M0.1 ∧ M.2.2.2 = M0.2.2.2
def kL (t : Nat) (M0 M : MS) : Prop := M.1 = M0.1 ∧ M.2.2.2 = M0.2.2.2 ∧ gM_come M = gM_come M0 ∧ gM_had M = gM_had M0 ∧ gM_used M = gM_used M0 ∧ ∀ i, (∀ p, i ≠ 64 * p + t) → gM_lost M i = gM_lost M0 i
def kD (t : Nat) (M0 M : MS) : Prop := M.1 = M0.1 ∧ M.2.2.2 = M0.2.2.2 ∧ gM_come M = gM_come M0 ∧ gM_lost M = gM_lost M0 ∧ gM_used M = gM_used M0 ∧ ∀ i, (∀ p, i ≠ 64 * p + t) → gM_had M i = gM_had M0 i
def kS (M0 M : MS) : Prop := M.1 = M0.1 ∧ M.2.1 = M0.2.1 ∧ M.2.2.2 = M0.2.2.2
section COM
variable {M0 M : MS} {X : XT} {Cl V0 D0 V O : Nat → Prop} {m0 n : Nat}
theorem m_come_come {a : Nat} (ha : a < 150) (hc : Cl a) (hW : WX 150 gM_come Cl (kC M0) V0 D0 m0 V O n M) {post : MS → Prop} (h : ∀ V' O' n' M', WX 150 gM_come Cl (kC M0) V0 D0 m0 V' O' n' M' → (∀ b, V b → V' b) → V' a → post M') : wp_X7_come_come M (nI a) (nI a) post := by
  have hvi : vp_in (nI a) 150 := vp_in_nI (by omega) (by omega)
  unfold wp_X7_come_come
  rw [n_cl (by omega), hW.1.2.2.1 a ha]
  refine ⟨hvi, bi_br (fun c => h V O n M hW (fun _ z => z) c) (fun c => ⟨hvi, fun S1 e1 => ?_⟩)⟩
  have hn := WD_lt hW.1 ha c
  have p1 : gM_piled S1 = nI n := by subst e1; exact hW.1.2.1
  rw [p1]
  refine ⟨vp_in_nI (by omega) (by omega), fun S2 e2 S3 e3 => ?_⟩
  rw [n_cl (by omega)] at e2
  have p2 : gM_piled S2 = nI n := by subst e2; exact p1
  rw [p2, show nI n + (1 : Int32) = nI (n + 1) from nI_1 n] at e3
  have g3 : gM_come S3 = upd (gM_come M) a 1 := by subst e3; subst e2; subst e1; rfl
  refine h _ _ _ S3 (WX_push (by omega) hW ha hc c ?_ (by subst e3; rfl) (by subst e3; subst e2; subst e1; rfl) (by rw [g3, u_s]) (fun b hb hba => by rw [g3, u_n hba])) (fun b z => Or.inl z) (Or.inr rfl)
  subst e3; subst e2; subst e1; exact hW.1.1
theorem m_come_seen {a : Nat} (ha : a < 150) (hc : Cl a) (hW : WX 150 gM_seen Cl (kS M0) V0 D0 m0 V O n M) {post : MS → Prop} (h : ∀ V' O' n' M', WX 150 gM_seen Cl (kS M0) V0 D0 m0 V' O' n' M' → (∀ b, V b → V' b) → V' a → post M') : wp_X7_come_seen M (nI a) (nI a) post := by
  have hvi : vp_in (nI a) 150 := vp_in_nI (by omega) (by omega)
  unfold wp_X7_come_seen
  rw [n_cl (by omega), hW.1.2.2.1 a ha]
  refine ⟨hvi, bi_br (fun c => h V O n M hW (fun _ z => z) c) (fun c => ⟨hvi, fun S1 e1 => ?_⟩)⟩
  have hn := WD_lt hW.1 ha c
  have p1 : gM_piled S1 = nI n := by subst e1; exact hW.1.2.1
  rw [p1]
  refine ⟨vp_in_nI (by omega) (by omega), fun S2 e2 S3 e3 => ?_⟩
  rw [n_cl (by omega)] at e2
  have p2 : gM_piled S2 = nI n := by subst e2; exact p1
  rw [p2, show nI n + (1 : Int32) = nI (n + 1) from nI_1 n] at e3
  have g3 : gM_seen S3 = upd (gM_seen M) a 1 := by subst e3; subst e2; subst e1; rfl
  refine h _ _ _ S3 (WX_push (by omega) hW ha hc c ?_ (by subst e3; rfl) (by subst e3; subst e2; subst e1; rfl) (by rw [g3, u_s]) (fun b hb hba => by rw [g3, u_n hba])) (fun b z => Or.inl z) (Or.inr rfl)
  subst e3; subst e2; subst e1; exact hW.1.1
theorem m_come_lost {t a : Nat} (ht : t < 64) (ha : a < 150) (hc : Cl a) (hW : WX 150 (fun M b => gM_lost M (64 * b + t)) Cl (kL t M0) V0 D0 m0 V O n M) {post : MS → Prop} (h : ∀ V' O' n' M', WX 150 (fun M b => gM_lost M (64 * b + t)) Cl (kL t M0) V0 D0 m0 V' O' n' M' → (∀ b, V b → V' b) → V' a → post M') : wp_X7_come_lost M (nI (64 * a + t)) (nI a) post := by
  have hvi : vp_in (nI (64 * a + t)) 9600 := vp_in_nI (by omega) (by omega)
  unfold wp_X7_come_lost
  rw [n_cl (by omega), show gM_lost M (64 * a + t) = bi (V a) from hW.1.2.2.1 a ha]
  refine ⟨hvi, bi_br (fun c => h V O n M hW (fun _ z => z) c) (fun c => ⟨hvi, fun S1 e1 => ?_⟩)⟩
  have hn := WD_lt hW.1 ha c
  have p1 : gM_piled S1 = nI n := by subst e1; exact hW.1.2.1
  rw [p1]
  refine ⟨vp_in_nI (by omega) (by omega), fun S2 e2 S3 e3 => ?_⟩
  rw [n_cl (by omega)] at e2
  have p2 : gM_piled S2 = nI n := by subst e2; exact p1
  rw [p2, show nI n + (1 : Int32) = nI (n + 1) from nI_1 n] at e3
  have g3 : gM_lost S3 = upd (gM_lost M) (64 * a + t) 1 := by subst e3; subst e2; subst e1; rfl
  have k3 : kL t M0 M := hW.1.1
  refine h _ _ _ S3 (WX_push (by omega) hW ha hc c ⟨?_, ?_, ?_, ?_, ?_, fun i hi => ?_⟩ (by subst e3; rfl) (by subst e3; subst e2; subst e1; rfl) (by show gM_lost S3 _ = _; rw [g3, u_s]) (fun b hb hba => by show gM_lost S3 _ = gM_lost M _; rw [g3, u_n (by omega)])) (fun b z => Or.inl z) (Or.inr rfl)
  · subst e3; subst e2; subst e1; exact k3.1
  · subst e3; subst e2; subst e1; exact k3.2.1
  · subst e3; subst e2; subst e1; exact k3.2.2.1
  · subst e3; subst e2; subst e1; exact k3.2.2.2.1
  · subst e3; subst e2; subst e1; exact k3.2.2.2.2.1
  · rw [g3, u_n (hi a)]; exact k3.2.2.2.2.2 i hi
theorem m_come_had {t a : Nat} (ht : t < 64) (ha : a < 150) (hc : Cl a) (hW : WX 150 (fun M b => gM_had M (64 * b + t)) Cl (kD t M0) V0 D0 m0 V O n M) {post : MS → Prop} (h : ∀ V' O' n' M', WX 150 (fun M b => gM_had M (64 * b + t)) Cl (kD t M0) V0 D0 m0 V' O' n' M' → (∀ b, V b → V' b) → V' a → post M') : wp_X7_come_had M (nI (64 * a + t)) (nI a) post := by
  have hvi : vp_in (nI (64 * a + t)) 9600 := vp_in_nI (by omega) (by omega)
  unfold wp_X7_come_had
  rw [n_cl (by omega), show gM_had M (64 * a + t) = bi (V a) from hW.1.2.2.1 a ha]
  refine ⟨hvi, bi_br (fun c => h V O n M hW (fun _ z => z) c) (fun c => ⟨hvi, fun S1 e1 => ?_⟩)⟩
  have hn := WD_lt hW.1 ha c
  have p1 : gM_piled S1 = nI n := by subst e1; exact hW.1.2.1
  rw [p1]
  refine ⟨vp_in_nI (by omega) (by omega), fun S2 e2 S3 e3 => ?_⟩
  rw [n_cl (by omega)] at e2
  have p2 : gM_piled S2 = nI n := by subst e2; exact p1
  rw [p2, show nI n + (1 : Int32) = nI (n + 1) from nI_1 n] at e3
  have g3 : gM_had S3 = upd (gM_had M) (64 * a + t) 1 := by subst e3; subst e2; subst e1; rfl
  have k3 : kD t M0 M := hW.1.1
  refine h _ _ _ S3 (WX_push (by omega) hW ha hc c ⟨?_, ?_, ?_, ?_, ?_, fun i hi => ?_⟩ (by subst e3; rfl) (by subst e3; subst e2; subst e1; rfl) (by show gM_had S3 _ = _; rw [g3, u_s]) (fun b hb hba => by show gM_had S3 _ = gM_had M _; rw [g3, u_n (by omega)])) (fun b z => Or.inl z) (Or.inr rfl)
  · subst e3; subst e2; subst e1; exact k3.1
  · subst e3; subst e2; subst e1; exact k3.2.1
  · subst e3; subst e2; subst e1; exact k3.2.2.1
  · subst e3; subst e2; subst e1; exact k3.2.2.2.1
  · subst e3; subst e2; subst e1; exact k3.2.2.2.2.1
  · rw [g3, u_n (hi a)]; exact k3.2.2.2.2.2 i hi
end COM

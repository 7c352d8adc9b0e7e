theorem n_dn (c : Nat) : nI (c + 1) + (-1 : Int32) = nI c := by
  rw [← nI_pred c, Int32.sub_eq_add_neg]
def kU (r : Nat) (M0 M : MS) : Prop := M.1 = M0.1 ∧ M.2.2.2 = M0.2.2.2 ∧ gM_come M = gM_come M0 ∧ gM_lost M = gM_lost M0 ∧ gM_had M = gM_had M0 ∧ ∀ i, (∀ p, i ≠ 16 * p + r) → gM_used M i = gM_used M0 i
def UI (X : XT) (r : Nat) (M0 : MS) (U : Nat → Prop) (M : MS) : Prop := kU r M0 M ∧ (∀ p, p < 150 → gM_used M (16 * p + r) = bi (U p)) ∧ (∀ p, U p → p < 150 ∧ usd X r p)
/-- q makes the points before it used, where U are the used ones -/
def stU (X : XT) (r : Nat) (U : Nat → Prop) (q : Nat) : Prop := us X q r ∨ (¬ rn X q r ∧ U q)
def UA (U0 : Nat → Prop) (x : Int32) (U : Nat → Prop) : Prop := (x = 0 ∧ ∀ b, U b ↔ U0 b) ∨ (x = 1 ∧ cnt U0 150 < cnt U 150)
section MUS
variable {M0 M : MS} {X : XT} {r : Nat}
theorem UA_mark {U0 U : Nat → Prop} {x : Int32} {p : Nat} (hp : p < 150) (hn : ¬ U p ∨ x = 1) (h : UA U0 x U) : UA U0 1 (fun b => U b ∨ b = p) := by
  refine Or.inr ⟨rfl, ?_⟩
  by_cases hu : U p
  · rcases h with ⟨e, _⟩ | ⟨_, h⟩
    · rcases hn with z | z
      · exact absurd hu z
      · rw [e] at z; exact absurd z (by decide)
    · rw [cnt_congr (P := fun b => U b ∨ b = p) (Q := U) (fun k _ => ⟨fun z => z.elim id (fun z => by rw [z]; exact hu), Or.inl⟩)]
      exact h
  · rw [cnt_add (P := U) hp hu]
    rcases h with ⟨_, h⟩ | ⟨_, h⟩
    · rw [cnt_congr (P := U) (Q := U0) (fun k _ => h k)]; omega
    · omega
theorem UI_mark (hr : r < 16) {U : Nat → Prop} {p q : Nat} (hp : p < 150) (h : UI X r M0 U M) (hrp : rch X p) (he : x_ed X p q = true) (hs : stU X r U q) {M' : MS} (e : M' = sM_used M (upd (gM_used M) (16 * p + r) 1)) : UI X r M0 (fun b => U b ∨ b = p) M' := by
  obtain ⟨k, h2, h3⟩ := h
  have g : gM_used M' = upd (gM_used M) (16 * p + r) 1 := by subst e; rfl
  refine ⟨⟨?_, ?_, ?_, ?_, ?_, fun i hi => ?_⟩, fun b hb => ?_, fun b hb => ?_⟩
  · subst e; exact k.1
  · subst e; exact k.2.1
  · subst e; exact k.2.2.1
  · subst e; exact k.2.2.2.1
  · subst e; exact k.2.2.2.2.1
  · rw [g, u_n (hi p)]; exact k.2.2.2.2.2 i hi
  · rw [g]
    by_cases eb : b = p
    · subst eb; rw [u_s, bi_t (Or.inr rfl)]
    · rw [u_n (by omega), h2 b hb]
      exact bi_e ⟨Or.inl, fun z => z.elim id (fun z => absurd z eb)⟩
  · rcases hb with z | z
    · exact h3 b z
    · subst z
      refine ⟨hp, fun C hC => hC b q hrp he ?_⟩
      rcases hs with z | z
      · exact Or.inl z
      · exact Or.inr ⟨z.1, (h3 q z.2).2 C hC⟩
theorem m_uses_in (hX : XI X) (hb : RMb M0 X) (hr : r < x_nv X) {p : Nat} (hp : p < 150) (hrp : rch X p) {U0 : Nat → Prop} {K : Int32 → Int32 → Int32 → MS → Prop} {post : MS → Prop} {y0 : Int32} (h : ∀ U x M', UI X r M0 U M' → UA U0 x U → (x = 0 → y0 = 0) → (x = 0 → ∀ q, x_ed X p q = true → ¬ stU X r U0 q) → K (nI r) x (nI p) M') {U : Nat → Prop} (hU : UI X r M0 U M) (hA : UA U0 y0 U) (hnu : ¬ U p) : ∃ n_, wp_X7_walkUses_72 K post n_ (nI r) y0 (nI p) 0 M := by
  have hn := hX.1
  have key : ∀ (k i : Nat), i + k = 4 → ∀ U x M', UI X r M0 U M' → UA U0 x U → (¬ U p ∨ x = 1) → (x = 0 → y0 = 0) → (x = 0 → ∀ j q, j < i → gM_nexts M0 (4 * p + j) = nI q → q < 150 → ¬ stU X r U0 q) → wp_X7_walkUses_72 K post (k + 1) (nI r) x (nI p) (nI i) M' := by
    intro k
    induction k with
    | zero =>
      intro i hi U x M' hU hA hnu hy hj
      have e : i = 4 := by omega
      subst e
      show ws_X7_walkUses_72 _ K post _ _ _ _ M'
      unfold ws_X7_walkUses_72
      refine brt (by decide) (h U x M' hU hA hy (fun hx q hq => ?_))
      obtain ⟨j, j1, j2⟩ := (hb.2.2 p hp).2.1 q hq
      exact hj hx j q j1 j2 (hX.2.2.2.1 p q hq).2
    | succ k ih =>
      intro i hi U x M' hU hA hnu hy hj
      show ws_X7_walkUses_72 _ K post _ _ _ _ M'
      unfold ws_X7_walkUses_72
      have hnx : gM_nexts M' = gM_nexts M0 := by have := hU.1.1; unfold gM_nexts; rw [this]
      have hb1 : RMb M' X := RMb_eq hU.1.1 hb
      have inc : ∀ U2 x2 M2, UI X r M0 U2 M2 → UA U0 x2 U2 → (¬ U2 p ∨ x2 = 1) → (x2 = 0 → y0 = 0) → (x2 = 0 → ∀ j q, j < i + 1 → gM_nexts M0 (4 * p + j) = nI q → q < 150 → ¬ stU X r U0 q) → wp_X7_walkUses_149 (wp_X7_walkUses_72 K post (k + 1)) post (nI r) x2 (nI p) (nI i) M2 := fun U2 x2 M2 z1 z2 z3 z4 z5 => by
        unfold wp_X7_walkUses_149
        intro y ey
        subst ey
        rw [show nI i + (1 : Int32) = nI (i + 1) from nI_1 i]
        exact ih (i + 1) (by omega) U2 x2 M2 z1 z2 z3 z4 z5
      have hvi : vp_in (nI (4 * p + i)) 600 := vp_in_nI (by omega) (by omega)
      rw [n_4q, n_cl (by omega), hnx]
      refine brf (fun q => absurd ((xc (a := 4) (b := i) (by omega) (by omega)).mp q) (by omega)) ⟨hvi, fun x5 e5 => ?_⟩
      rcases (hb.2.2 p hp).1 i (by omega) with e | ⟨q, q1, q2, q3⟩
      · refine brt (by rw [e5, e]) (inc U x M' hU hA hnu hy (fun hx j q hji e2 hq => ?_))
        by_cases ej : j = i
        · subst ej; exact absurd (e2.symm.trans e) (n_m1 (by omega))
        · exact hj hx j q (by omega) e2 hq
      · rw [q2] at e5
        subst e5
        have no : ¬ stU X r U q → wp_X7_walkUses_149 (wp_X7_walkUses_72 K post (k + 1)) post (nI r) x (nI p) (nI i) M' := fun hz => inc U x M' hU hA hnu hy (fun hx j q' hji e2 hq => by
          by_cases ej : j = i
          · subst ej
            have := n_inj (by omega) (by omega) (e2.symm.trans q2)
            subst this
            rcases hA with ⟨_, hA⟩ | ⟨ex, _⟩
            · exact fun z => hz (z.elim Or.inl (fun z => Or.inr ⟨z.1, (hA q').mpr z.2⟩))
            · rw [hx] at ex; exact absurd ex (by decide)
          · exact hj hx j q' (by omega) e2 hq)
        have yes : stU X r U q → wp_X7_walkUses_135 (fun x1 x2 x3 x4 S => wp_X7_walkUses_149 (wp_X7_walkUses_72 K post (k + 1)) post x1 x2 x3 x4 S) post (nI r) (nI p) (nI i) M' := fun hz => by
          unfold wp_X7_walkUses_135
          rw [n_16m, n_cl (by omega)]
          exact ⟨vp_in_nI (by omega) (by omega), fun S1 e1 => inc _ 1 S1 (UI_mark (by omega) hp hU hrp q3 hz e1) (UA_mark hp hnu hA) (Or.inr rfl) (fun hx => absurd hx (by decide)) (fun hx => absurd hx (by decide))⟩
        refine brf (n_m1 (by omega)) (m_uses hX hb1 q1 hr (bi_brn (fun c => yes (Or.inl c)) (fun c => m_renews hX hb1 q1 hr (bi_brn (fun c2 => no (fun z => z.elim c (fun z => z.1 c2))) (fun c2 => ?_)))))
        rw [n_16m, n_cl (by omega), hU.2.1 q q1]
        exact ⟨vp_in_nI (by omega) (by omega), bi_brn (fun c3 => yes (Or.inr ⟨c2, c3⟩)) (fun c3 => no (fun z => z.elim c (fun z => c3 z.2)))⟩
  exact ⟨_, key 4 0 (by omega) U y0 M hU hA (Or.inl hnu) id (fun _ j q hj => by omega)⟩
theorem m_uses_round (hX : XI X) (hb : RMb M0 X) (hw : VMw M0 X) (hr : r < x_nv X) {U0 : Nat → Prop} {K : Int32 → Int32 → MS → Prop} {post : MS → Prop} (h : ∀ U x M', UI X r M0 U M' → UA U0 x U → (x = 0 → ∀ p, p < 150 → rch X p → ¬ U0 p → ∀ q, x_ed X p q = true → ¬ stU X r U0 q) → K (nI r) x M') (hU : UI X r M0 U0 M) : ∃ n_, wp_X7_walkUses_39 K post n_ (nI r) 0 149 M := by
  have hn := hX.1
  have key : ∀ (c : Nat), c ≤ 150 → ∀ U x M', UI X r M0 U M' → UA U0 x U → (x = 0 → ∀ p, c ≤ p → p < 150 → rch X p → ¬ U0 p → ∀ q, x_ed X p q = true → ¬ stU X r U0 q) → wp_X7_walkUses_39 K post (c + 1) (nI r) x (nI c + (-1 : Int32)) M' := by
    intro c
    induction c with
    | zero =>
      intro hc U x M' hU hA hv
      show ws_X7_walkUses_39 _ K post _ _ _ M'
      unfold ws_X7_walkUses_39
      exact brt (by decide) (h U x M' hU hA (fun hx p hp => hv hx p (by omega) hp))
    | succ p ih =>
      intro hc U x M' hU hA hv
      show ws_X7_walkUses_39 _ K post _ _ _ M'
      rw [n_dn]
      unfold ws_X7_walkUses_39
      have hp : p < 150 := by omega
      have inc : ∀ U2 x2 M2, UI X r M0 U2 M2 → UA U0 x2 U2 → (x2 = 0 → rch X p → ¬ U0 p → ∀ q, x_ed X p q = true → ¬ stU X r U0 q) → (x2 = 0 → x = 0) → wp_X7_walkUses_155 (wp_X7_walkUses_39 K post (p + 1)) post (nI r) x2 (nI p) M2 := fun U2 x2 M2 z1 z2 z3 z4 => by
        unfold wp_X7_walkUses_155
        intro y ey
        subst ey
        refine ih (by omega) U2 x2 M2 z1 z2 (fun hx q hq hq2 => ?_)
        by_cases e : q = p
        · subst e; exact z3 hx
        · exact hv (z4 hx) q (by omega) hq2
      have hcm : gM_come M' p = bi (rch X p) := by rw [hU.1.2.2.1]; exact hw p hp
      rw [n_16m, n_cl (j := p) (by omega), n_cl (by omega), hcm, hU.2.1 p hp]
      refine brf (xn (by omega)) ⟨vp_in_nI (by omega) (by omega), bi_br (fun cr => ⟨vp_in_nI (by omega) (by omega), bi_br (fun cu => inc U x M' hU hA (fun hx _ hz => ?_) id) (fun cu => ?_)⟩) (fun cr => inc U x M' hU hA (fun _ hz => absurd hz cr) id)⟩
      · rcases hA with ⟨_, hA⟩ | ⟨e, _⟩
        · exact absurd ((hA p).mp cu) hz
        · rw [hx] at e; exact absurd e (by decide)
      · exact m_uses_in hX hb hr hp cr (fun U2 x2 M2 z1 z2 z4 z3 => inc U2 x2 M2 z1 z2 (fun hx _ _ => z3 hx) z4) hU hA cu
  exact ⟨_, key 150 (Nat.le_refl _) U0 0 M hU (Or.inl ⟨rfl, fun _ => Iff.rfl⟩) (fun _ p hp hp2 => by omega)⟩
theorem m_walkUses (hX : XI X) (hb : RMb M X) (hw : VMw M X) (hr : r < x_nv X) {post : MS → Prop} (h : ∀ M', kU r M M' → (∀ p, p < 150 → gM_used M' (16 * p + r) = bi (usd X r p)) → post M') : wp_X7_walkUses M (nI r) post := by
  have hn := hX.1
  have loop := lpm (α := Nat × Int32 × MS) (fun n a => wp_X7_walkUses_29 post n (nI r) a.2.1 a.2.2) (fun a => ∃ U, UI X r M U a.2.2 ∧ ((a.2.1 = 0 ∧ a.1 = 0 ∧ ∀ p, p < 150 → rch X p → ¬ U p → ∀ q, x_ed X p q = true → ¬ stU X r U q) ∨ (a.2.1 = 1 ∧ a.1 = 151 - cnt U 150))) (fun a => a.1) (fun k a hI ih => by
    obtain ⟨m, x, M'⟩ := a
    obtain ⟨U, hU, hx⟩ := hI
    dsimp only at hU hx ih ⊢
    show ws_X7_walkUses_29 _ post _ _ M'
    unfold ws_X7_walkUses_29
    rcases hx with ⟨e, em, hc⟩ | ⟨e, em⟩
    · refine brt e (h M' hU.1 (fun p hp => ?_))
      rw [hU.2.1 p hp]
      refine bi_e ⟨fun z => (hU.2.2 p z).2, fun z => z U (fun p q hr he hs => ?_)⟩
      exact Classical.byContradiction (fun hn => hc p (rch_lt hX hr) hr hn q he hs)
    · subst e
      refine brf (by decide) (m_uses_round hX hb hw hr (fun U2 x2 M2 z1 z2 z3 => ?_) hU)
      have hle := cnt_le U 150
      rcases z2 with ⟨e2, z2⟩ | ⟨e2, z2⟩
      · refine ih (0, x2, M2) ⟨U2, z1, Or.inl ⟨e2, rfl, fun p q1 q2 q3 q q4 q5 => ?_⟩⟩ (by show 0 < m; omega)
        exact z3 e2 p q1 q2 (fun z => q3 ((z2 p).mpr z)) q q4 (q5.elim Or.inl (fun z => Or.inr ⟨z.1, (z2 q).mp z.2⟩))
      · exact ih (151 - cnt U2 150, x2, M2) ⟨U2, z1, Or.inr ⟨e2, rfl⟩⟩ (by show 151 - cnt U2 150 < m; have := cnt_le U2 150; omega))
  have key : ∀ (k i : Nat), i + k = 150 → ∀ M', kU r M M' → (∀ j, j < i → gM_used M' (16 * j + r) = 0) → wp_X7_walkUses_2 post (k + 1) (nI r) (nI i) M' := by
    intro k
    induction k with
    | zero =>
      intro i hi M' hk hz
      have e : i = 150 := by omega
      subst e
      show ws_X7_walkUses_2 _ post _ _ M'
      unfold ws_X7_walkUses_2
      exact brt (by decide) (loop (151 - cnt (fun _ => False) 150, 1, M') ⟨fun _ => False, ⟨hk, fun p hp => by rw [hz p hp, bi_f (fun z => z)], fun p z => z.elim⟩, Or.inr ⟨rfl, rfl⟩⟩)
    | succ k ih =>
      intro i hi M' hk hz
      show ws_X7_walkUses_2 _ post _ _ M'
      unfold ws_X7_walkUses_2
      rw [n_16m, n_cl (j := 16 * i + r) (by omega)]
      refine brf (fun q => absurd ((xc (a := 150) (b := i) (by omega) (by omega)).mp q) (by omega)) ⟨vp_in_nI (by omega) (by omega), fun S2 e2 x e3 => ?_⟩
      subst e3
      rw [show nI i + (1 : Int32) = nI (i + 1) from nI_1 i]
      have g : gM_used S2 = upd (gM_used M') (16 * i + r) 0 := by subst e2; rfl
      refine ih (i + 1) (by omega) S2 ⟨?_, ?_, ?_, ?_, ?_, fun j hj => ?_⟩ (fun j hj => ?_)
      · subst e2; exact hk.1
      · subst e2; exact hk.2.1
      · subst e2; exact hk.2.2.1
      · subst e2; exact hk.2.2.2.1
      · subst e2; exact hk.2.2.2.2.1
      · rw [g, u_n (hj i)]; exact hk.2.2.2.2.2 j hj
      · rw [g]
        by_cases e : j = i
        · subst e; exact u_s
        · rw [u_n (by omega)]; exact hz j (by omega)
  exact ⟨_, key 150 0 (by omega) M ⟨rfl, rfl, rfl, rfl, rfl, fun _ _ => rfl⟩ (fun j hj => by omega)⟩
end MUS

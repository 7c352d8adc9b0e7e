/-! who holds which loan -/
theorem hld_ref {X : XT} (hX : XI X) {l p r : Nat} (hl : ml X l) (hl1 : l < 150) (h : hld X l p r) : r < x_nv X ∧ x_so X r ≠ 0 ∧ rch X p := by
  refine h (fun p r => r < x_nv X ∧ x_so X r ≠ 0 ∧ rch X p) (fun hr _ q hq => ?_) (fun a r q hc _ _ he => ⟨hc.1, hc.2.1, rch_s hc.2.2 he⟩) (fun a r q hc _ hp he => ?_)
  · have := ok_to (hX.2.2.1 l hl1) (Or.inl hl.1)
    exact ⟨this.1, this.2, rch_s hr hq⟩
  · have ha := rch_lt hX hc.2.2
    have h78 : x_ac X a = 7 ∨ x_ac X a = 8 := by rcases hp with q | q <;> omega
    have := ok_to (hX.2.2.1 a ha) h78
    exact ⟨this.1, this.2, rch_s hc.2.2 he⟩
def eqH (S S' : CS) : Prop := eqL S S' ∧ gC_makers S' = gC_makers S ∧ gC_bits S' = gC_bits S ∧ gC_loansOf S' = gC_loansOf S ∧ gC_usedL S' = gC_usedL S ∧ gC_soleL S' = gC_soleL S ∧ gC_lmade S' = gC_lmade S
theorem eqH_t {S S' S'' : CS} (h : eqH S S') (h' : eqH S' S'') : eqH S S'' := ⟨eqL_t h.1 h'.1, h'.2.1.trans h.2.1, h'.2.2.1.trans h.2.2.1, h'.2.2.2.1.trans h.2.2.2.1, h'.2.2.2.2.1.trans h.2.2.2.2.1, h'.2.2.2.2.2.1.trans h.2.2.2.2.2.1, h'.2.2.2.2.2.2.trans h.2.2.2.2.2.2⟩
theorem eqH_r (S : CS) : eqH S S := ⟨⟨rfl, rfl, rfl, rfl, rfl⟩, rfl, rfl, rfl, rfl, rfl, rfl⟩
theorem eqH_v {S S' : CS} {X : XT} (h : eqH S S') (q : VLn S X) : VLn S' X := by
  unfold VLn at *
  rw [h.2.1, h.2.2.1, h.2.2.2.1, h.2.2.2.2.2.1, h.2.2.2.2.2.2]; exact q
noncomputable def p60 (w : Int64) : Nat := cnt (fun i => lb w i = true) 60
noncomputable def muH (S : CS) : Nat := sm (fun k => 60 - p60 (gC_holdings S k)) 2400
theorem muH_le (S : CS) : muH S ≤ 144000 := by
  have := sm_le (g := fun k => 60 - p60 (gC_holdings S k)) (c := 60) (n := 2400) (fun k _ => by omega)
  unfold muH; omega
/-- number i is that of a loan which v holds at q -/
def tgt (X : XT) (q v i : Nat) : Prop := ∃ l, l < 150 ∧ ml X l ∧ i = cnt (ml X) l ∧ hld X l q v
theorem tgt_60 {X : XT} (hX : XI X) {q v i : Nat} (h : tgt X q v i) : i < 60 := by
  obtain ⟨l, h1, h2, h3, _⟩ := h
  have := cnt_lt_of h1 h2
  have := ml_60 hX
  omega
def sndH (S : CS) (X : XT) : Prop := ∀ p v i, p < 150 → v < x_nv X → i < 64 → lb (gC_holdings S (16 * p + v)) i = true → tgt X p v i
theorem n_16 {p v : Nat} : nI p * (16 : Int32) + nI v = nI (16 * p + v) := by
  rw [show nI p * (16 : Int32) = nI (p * 16) from pk_mul p 16, nI_add, Nat.mul_comm]
theorem s_size4 {S : CS} {post : Int32 → CS → Prop} (h : post (gC_vmade S) S) : wp_X4_size S post := h
theorem s_takeOver {S : CS} {X : XT} (hX : XI X) (hv : RCv S X) (hs : sndH S X) {q : Nat} (hq : q < 150) (hA : ∀ v i, v < x_nv X → i < 64 → lb (gC_handed S v) i = true → tgt X q v i) {post : Int32 → CS → Prop} (h : ∀ (r : Int32) S', eqH S S' → gC_handed S' = gC_handed S → isb r → sndH S' X → (r = 0 → S' = S ∧ ∀ v, v < x_nv X → gC_handed S v &&& (gC_holdings S (16 * q + v) ^^^ (-1)) = 0) → (¬ r = 0 → muH S' < muH S) → post r S') : wp_X2_takeOver S (nI q) post := by
  have hn := hX.1
  have key : ∀ (k v : Nat) (x2 : Int32) (S1 : CS), v + k = x_nv X → eqH S S1 → gC_handed S1 = gC_handed S → isb x2 → sndH S1 X → (x2 = 0 → S1 = S ∧ ∀ u, u < v → gC_handed S u &&& (gC_holdings S (16 * q + u) ^^^ (-1)) = 0) → (¬ x2 = 0 → muH S1 < muH S) → wp_X2_takeOver_4 post (k + 1) (nI q) x2 (nI v) S1 := by
    intro k
    induction k with
    | zero =>
      intro v x2 S1 hk heq hh h2 hs1 h20 h21
      show ws_X2_takeOver_4 _ post _ _ _ S1
      unfold ws_X2_takeOver_4
      refine s_size4 ?_
      rw [(RCv_eq heq.1.1 hv).1]
      exact brt ((xc (by omega) (by omega)).mpr (by omega)) ⟨h2, h x2 S1 heq hh h2 hs1 (fun z => ⟨(h20 z).1, fun u hu => (h20 z).2 u (by omega)⟩) h21⟩
    | succ k ih =>
      intro v x2 S1 hk heq hh h2 hs1 h20 h21
      show ws_X2_takeOver_4 _ post _ _ _ S1
      unfold ws_X2_takeOver_4
      refine s_size4 ?_
      rw [(RCv_eq heq.1.1 hv).1]
      refine brf (fun z => absurd ((xc (by omega) (by omega)).mp z) (by omega)) (fun x4 e4 => ?_)
      rw [n_16] at e4
      subst e4
      have hva : vp_in (nI (16 * q + v)) 2400 := vp_in_nI (by omega) (by omega)
      have hvv : vp_in (nI v) 16 := vp_in_nI (by omega) (by omega)
      rw [n_cl (by omega), n_cl (by omega), hh]
      have go : ∀ (x2' : Int32) S2, eqH S S2 → gC_handed S2 = gC_handed S → isb x2' → sndH S2 X → (x2' = 0 → S2 = S ∧ ∀ u, u < v + 1 → gC_handed S u &&& (gC_holdings S (16 * q + u) ^^^ (-1)) = 0) → (¬ x2' = 0 → muH S2 < muH S) → wp_X2_takeOver_64 (wp_X2_takeOver_4 post (k + 1)) post (nI q) x2' (nI v) S2 := by
        intro x2' S2 a1 a2 a3 a4 a5 a6
        unfold wp_X2_takeOver_64
        intro x3 e3
        subst e3
        rw [show nI v + (1 : Int32) = nI (v + 1) from nI_1 v]
        exact ih (v + 1) x2' S2 (by omega) a1 a2 a3 a4 a5 a6
      refine ⟨hvv, hva, ⟨fun c => ?_, fun c => ⟨hva, hvv, hva, fun S2 e2 => ?_⟩⟩⟩
      · refine go x2 S1 heq hh h2 hs1 (fun z => ⟨(h20 z).1, fun u hu => ?_⟩) h21
        by_cases e : u = v
        · subst e
          have := cmp0.mp c
          rw [(h20 z).1] at this; exact this
        · exact (h20 z).2 u (by omega)
      · have gh : gC_holdings S2 = vp_updL (gC_holdings S1) (16 * q + v) (gC_holdings S1 (16 * q + v) ||| gC_handed S v) := by subst e2; rfl
        have heq2 : eqH S S2 := by subst e2; exact heq
        have hh2 : gC_handed S2 = gC_handed S := by subst e2; exact hh
        refine go 1 S2 heq2 hh2 (Or.inr rfl) (fun p u i hp hu hi hb => ?_) (fun z => absurd z (by decide)) (fun _ => ?_)
        · rw [gh] at hb
          by_cases e : 16 * p + u = 16 * q + v
          · have ep : p = q := by omega
            have eu : u = v := by omega
            rw [e, ul_s, lb_or, Bool.or_eq_true] at hb
            rw [ep, eu]
            rcases hb with hb | hb
            · exact hs1 q v i hq (by omega) hi hb
            · exact hA v i (by omega) hi hb
          · rw [ul_n e] at hb; exact hs1 p u i hp hu hi hb
        · have hlt : muH S2 < muH S1 := by
            unfold muH
            refine sm_dec (q := 16 * q + v) (by omega) (fun b _ e => by rw [gh, ul_n e]) ?_
            rw [gh, ul_s]
            obtain ⟨i, hi, e⟩ := lb_nz.mp (fun z => c (cmp0.mpr z))
            rw [lb_and, lb_not _ hi, Bool.and_eq_true] at e
            have hi60 := tgt_60 hX (hA v i (by omega) hi e.1)
            have : p60 (gC_holdings S1 (16 * q + v)) < p60 (gC_holdings S1 (16 * q + v) ||| gC_handed S v) := cnt_strict (fun j _ z => by rw [lb_or, z]; rfl) hi60 (by rw [lb_or, e.1]; simp) (fun z => by rw [z] at e; simp at e)
            have := cnt_le (fun j => lb (gC_holdings S1 (16 * q + v) ||| gC_handed S v) j = true) 60
            unfold p60 at *
            omega
          by_cases z : x2 = 0
          · rw [(h20 z).1] at hlt; exact hlt
          · exact Nat.lt_trans hlt (h21 z)
  exact ⟨_, key (x_nv X) 0 0 S (by omega) (eqH_r S) rfl (Or.inl rfl) hs (fun _ => ⟨rfl, fun u hu => by omega⟩) (fun z => absurd rfl z)⟩
/-- the word of v behind p's act -/
def aft (S : CS) (X : XT) (p : Nat) (f : Nat → Int64) : Prop := ∀ v i, v < x_nv X → i < 64 → (lb (f v) i = true ↔
  ((gC_renR S p = -1 ∧ lb (gC_holdings S (16 * p + v)) i = true) ∨
   (∃ a, a < x_nv X ∧ gC_renR S p = nI a ∧ ¬ lb (gC_loansOf S a) i = true ∧ ((v ≠ a ∧ lb (gC_holdings S (16 * p + v)) i = true) ∨ (v = a ∧ (lb (gC_bits S p) i = true ∨ ∃ u, u < x_nv X ∧ gC_usedR S p = nI u ∧ lb (gC_holdings S (16 * p + u)) i = true))))))
theorem s_renew_loop {S : CS} {X : XT} (hX : XI X) (hv : RCv S X) {a : Nat} (ha : a < x_nv X) {post : CS → Prop} (h : ∀ S', eqH S S' → gC_holdings S' = gC_holdings S → (∀ v, v < x_nv X → gC_handed S' v = gC_handed S v &&& (gC_loansOf S a ^^^ (-1))) → post S') : ∃ n_, wp_X2_renew_55 post n_ (nI a) 0 S := by
  have hn := hX.1
  have key : ∀ (k v : Nat) (S1 : CS), v + k = x_nv X → eqH S S1 → gC_holdings S1 = gC_holdings S → (∀ u, u < v → gC_handed S1 u = gC_handed S u &&& (gC_loansOf S a ^^^ (-1))) → (∀ u, v ≤ u → gC_handed S1 u = gC_handed S u) → wp_X2_renew_55 post (k + 1) (nI a) (nI v) S1 := by
    intro k
    induction k with
    | zero =>
      intro v S1 hk heq hho h1 h2
      show ws_X2_renew_55 _ post _ _ S1
      unfold ws_X2_renew_55
      refine s_size4 ?_
      rw [(RCv_eq heq.1.1 hv).1]
      exact brt ((xc (by omega) (by omega)).mpr (by omega)) (h S1 heq hho (fun u hu => h1 u (by omega)))
    | succ k ih =>
      intro v S1 hk heq hho h1 h2
      show ws_X2_renew_55 _ post _ _ S1
      unfold ws_X2_renew_55
      refine s_size4 ?_
      rw [(RCv_eq heq.1.1 hv).1]
      have hvv : vp_in (nI v) 16 := vp_in_nI (by omega) (by omega)
      refine brf (fun z => absurd ((xc (by omega) (by omega)).mp z) (by omega)) ⟨hvv, vp_in_nI (by omega) (by omega), hvv, fun S2 e2 x4 e4 => ?_⟩
      subst e4
      rw [n_cl (by omega), n_cl (by omega), heq.2.2.2.1, h2 v (Nat.le_refl v)] at e2
      rw [show nI v + (1 : Int32) = nI (v + 1) from nI_1 v]
      have gh : gC_handed S2 = vp_updL (gC_handed S1) v (gC_handed S v &&& (gC_loansOf S a ^^^ (-1))) := by subst e2; rfl
      refine ih (v + 1) S2 (by omega) (by subst e2; exact heq) (by subst e2; exact hho) (fun u hu => ?_) (fun u hu => ?_)
      · rw [gh]
        by_cases e : u = v
        · subst e; exact ul_s
        · rw [ul_n e]; exact h1 u (by omega)
      · rw [gh, ul_n (by omega)]; exact h2 u (by omega)
  exact ⟨_, key (x_nv X) 0 S (by omega) (eqH_r S) rfl (fun u hu => by omega) (fun u _ => rfl)⟩
theorem s_renew {S : CS} {X : XT} (hX : XI X) (hb : RCb S X) {p : Nat} (hp : p < 150) (hh : ∀ v, v < 16 → gC_handed S v = gC_holdings S (16 * p + v)) {post : CS → Prop} (h : ∀ S', eqH S S' → gC_holdings S' = gC_holdings S → aft S X p (gC_handed S') → post S') : wp_X2_renew S (nI p) post := by
  have hn := hX.1
  have hk := hX.2.2.1 p hp
  obtain ⟨-, -, -, d4, d5, d6, d7, d8⟩ := hb.2.2.1 p hp
  unfold wp_X2_renew
  refine s_renewedAt hp (brn (fun c => ?_) (fun c => ?_))
  · -- p renews a
    obtain ⟨a, ha, ea⟩ : ∃ a, a < x_nv X ∧ gC_renR S p = nI a := by
      by_cases h7 : x_ac X p = 7 ∨ x_ac X p = 8
      · exact ⟨_, (ok_to hk h7).1, d6 h7⟩
      · by_cases h5 : x_ac X p = 5 ∧ x_so X (x_of X p) ≠ 0
        · exact ⟨_, ok_of hk (by omega), d7 h5⟩
        · exact absurd (d8 ⟨h7, h5⟩) c
    rw [ea]
    have h50 : ∀ (w : Int64), (∀ i, i < 64 → (lb w i = true ↔ ∃ u, u < x_nv X ∧ gC_usedR S p = nI u ∧ lb (gC_holdings S (16 * p + u)) i = true)) → wp_X2_renew_50 post (nI a) w (gC_bits S p) (nI a) S := by
      intro w hw
      unfold wp_X2_renew_50
      refine ⟨vp_in_nI (by omega) (by omega), fun S1 e1 => ?_⟩
      rw [n_cl (by omega)] at e1
      have gh : gC_handed S1 = vp_updL (gC_handed S) a (gC_bits S p ||| w) := by subst e1; rfl
      have heq1 : eqH S S1 := by subst e1; exact eqH_r S
      have hho1 : gC_holdings S1 = gC_holdings S := by subst e1; rfl
      refine s_renew_loop hX (RCv_eq heq1.1.1 hb.1) ha (fun S2 heq2 hho2 hl => h S2 (eqH_t heq1 heq2) (hho2.trans hho1) (fun v i hv hi => ?_))
      rw [hl v hv, heq1.2.2.2.1, lb_and, lb_not _ hi, gh, Bool.and_eq_true]
      have hnl : (!lb (gC_loansOf S a) i) = true ↔ ¬ lb (gC_loansOf S a) i = true := by cases lb (gC_loansOf S a) i <;> simp
      rw [hnl]
      constructor
      · rintro ⟨q1, q2⟩
        refine Or.inr ⟨a, ha, ea, q2, ?_⟩
        by_cases e : v = a
        · rw [e, ul_s, lb_or, Bool.or_eq_true, hw i hi] at q1
          exact Or.inr ⟨e, q1⟩
        · rw [ul_n e, hh v (by omega)] at q1
          exact Or.inl ⟨e, q1⟩
      · rintro (q | ⟨a2, q1, q2, q3, q4⟩)
        · exact absurd q.1 c
        · have := n_inj (by omega) (by omega) (ea.symm.trans q2)
          subst this
          refine ⟨?_, q3⟩
          rcases q4 with q4 | q4
          · rw [ul_n q4.1, hh v (by omega)]; exact q4.2
          · rw [q4.1, ul_s, lb_or, Bool.or_eq_true, hw i hi]; exact q4.2
    refine s_usedAt hp ?_
    rw [n_cl (by omega)]
    refine ⟨vp_in_nI (by omega) (by omega), brn (fun c2 => ?_) (fun c2 => h50 0 (fun i hi => ?_))⟩
    · have hus : us X p (x_of X p) := Classical.byContradiction (fun z => c2 (d5 z))
      have hac0 : x_ac X p ≠ 0 := by
        rcases hus with z | z
        · omega
        · have := z.1; unfold onp at this; omega
      have ho := ok_of hk hac0
      rw [d4 hus, n_cl (by omega)]
      refine ⟨vp_in_nI (by omega) (by omega), h50 _ (fun i hi => ?_)⟩
      rw [hh _ (by omega)]
      constructor
      · intro z; exact ⟨_, ho, d4 hus, z⟩
      · rintro ⟨u, u1, u2, u3⟩
        have := n_inj (by omega) (by omega) ((d4 hus).symm.trans u2)
        rw [this]; exact u3
    · rw [lb_0]
      constructor
      · intro z; cases z
      · rintro ⟨u, u1, u2, u3⟩
        rw [c2] at u2
        exact absurd u2.symm (n_m1 (by omega))
  · refine h S (eqH_r S) rfl (fun v i hv hi => ?_)
    rw [hh v (by omega)]
    constructor
    · intro z; exact Or.inl ⟨c, z⟩
    · rintro (z | ⟨a, z1, z2, _⟩)
      · exact z.2
      · rw [c] at z2; exact absurd z2.symm (n_m1 (by omega))
def cloH (S : CS) (X : XT) (p : Nat) : Prop := ∃ f, aft S X p f ∧ ∀ q v, x_ed X p q = true → v < x_nv X → f v &&& (gC_holdings S (16 * q + v) ^^^ (-1)) = 0
/-- what goes on from p is held there -/
theorem aft_snd {S : CS} {X : XT} (hX : XI X) (hb : RCb S X) (hN : VLn S X) (hs : sndH S X) {p : Nat} (hp : p < 150) (hr : rch X p) {f : Nat → Int64} (hf : aft S X p f) {q : Nat} (hq : x_ed X p q = true) : ∀ v i, v < x_nv X → i < 64 → lb (f v) i = true → tgt X q v i := by
  intro v i hv hi hb1
  have hk := hX.2.2.1 p hp
  obtain ⟨-, -, -, d4, d5, d6, d7, d8⟩ := hb.2.2.1 p hp
  have hn := hX.1
  have h60 := ml_60 hX
  -- what is renewed, in words of X
  have hren : ∀ a, gC_renR S p = nI a → a < x_nv X → (∀ r, x_so X r ≠ 0 → (rn X p r ↔ r = a)) ∧ x_so X a ≠ 0 := by
    intro a ea ha
    by_cases h7 : x_ac X p = 7 ∨ x_ac X p = 8
    · have ht := ok_to hk h7
      have e := n_inj (by omega) (by omega) (ea.symm.trans (d6 h7))
      refine ⟨fun r _ => ⟨fun z => ?_, fun z => Or.inl ⟨h7, by omega⟩⟩, by rw [e]; exact ht.2⟩
      rcases z with z | z
      · omega
      · omega
    · by_cases h5 : x_ac X p = 5 ∧ x_so X (x_of X p) ≠ 0
      · have e := n_inj (by omega) (by have := ok_of hk (by omega); omega) (ea.symm.trans (d7 h5))
        refine ⟨fun r _ => ⟨fun z => ?_, fun z => Or.inr ⟨h5.1, by omega⟩⟩, by rw [e]; exact h5.2⟩
        rcases z with z | z
        · exact absurd z.1 h7
        · omega
      · rw [d8 ⟨h7, h5⟩] at ea; exact absurd ea.symm (n_m1 (by omega))
  have hno : gC_renR S p = -1 → ∀ r, x_so X r ≠ 0 → ¬ rn X p r := by
    intro e r hr2 z
    rcases z with z | z
    · have ht := ok_to hk z.1
      rw [d6 z.1] at e; exact n_m1 (by omega) e
    · have ho := ok_of hk (by omega)
      rw [d7 ⟨z.1, by rw [z.2]; exact hr2⟩] at e; exact n_m1 (by omega) e
  rcases (hf v i hv hi).mp hb1 with ⟨e1, e2⟩ | ⟨a, ha, ea, hnl, hc⟩
  · obtain ⟨l, l1, l2, l3, l4⟩ := hs p v i hp hv hi e2
    have href := hld_ref hX l2 l1 l4
    refine ⟨l, l1, l2, l3, fun C c1 c2 c3 => c2 p v q (l4 C c1 c2 c3) (fun g => hno e1 _ g.1 g.2) (hno e1 v href.2.1) hq⟩
  · obtain ⟨hra, hsa⟩ := hren a ea ha
    have hngone : ∀ l, l < 150 → ml X l → i = cnt (ml X) l → ¬ gone X l p := fun l l1 l2 l3 g => by
      have e := (hra _ g.1).mp g.2
      exact hnl ((hN.2.2.2.1 a i ha hi).mpr ⟨l, l1, l2, l3, e⟩)
    rcases hc with ⟨hva, e2⟩ | ⟨hva, e2⟩
    · obtain ⟨l, l1, l2, l3, l4⟩ := hs p v i hp hv hi e2
      have href := hld_ref hX l2 l1 l4
      exact ⟨l, l1, l2, l3, fun C c1 c2 c3 => c2 p v q (l4 C c1 c2 c3) (hngone l l1 l2 l3) (fun z => hva ((hra v href.2.1).mp z)) hq⟩
    · subst hva
      rcases e2 with e2 | ⟨u, u1, u2, u3⟩
      · -- its own loan
        have hm : ml X p := Classical.byContradiction (fun z => by rw [hN.2.2.1 p hp z, lb_0] at e2; cases e2)
        have hlt := cnt_lt_of hp hm
        rw [(hN.2.1 p hp hm).1, lb_one (by omega), decide_eq_true_iff] at e2
        have ht := ok_to hk (Or.inl hm.1)
        have ev : x_to X p = v := n_inj (by omega) (by omega) ((d6 (Or.inl hm.1)).symm.trans ea)
        refine ⟨p, hp, hm, e2, fun C c1 c2 c3 => ?_⟩
        have := c1 hr (fun e => hnl ((hN.2.2.2.1 v i hv hi).mpr ⟨p, hp, hm, e2, by omega⟩)) q hq
        rw [ev] at this; exact this
      · obtain ⟨l, l1, l2, l3, l4⟩ := hs p u i hp u1 hi u3
        have hus : us X p (x_of X p) := Classical.byContradiction (fun z => by rw [d5 z] at u2; exact n_m1 (by omega) u2.symm)
        have eu : x_of X p = u := n_inj (by
          have : x_ac X p ≠ 0 := by
            rcases hus with z | z
            · omega
            · have := z.1; unfold onp at this; omega
          have := ok_of hk this
          omega) (by omega) ((d4 hus).symm.trans u2)
        have h78 : x_ac X p = 7 ∨ x_ac X p = 8 := by
          apply Classical.byContradiction
          intro h7
          by_cases h5 : x_ac X p = 5 ∧ x_so X (x_of X p) ≠ 0
          · rcases hus with z | z
            · omega
            · have := z.1; unfold onp at this; omega
          · rw [d8 ⟨h7, h5⟩] at ea; exact n_m1 (by omega) ea.symm
        have ht := ok_to hk h78
        have ev : x_to X p = v := n_inj (by omega) (by omega) ((d6 h78).symm.trans ea)
        have hpas : pas X p u := by
          rcases hus with z | z
          · exact Or.inl ⟨z.1, eu⟩
          · rcases h78 with k | k
            · exact Or.inr ⟨k, eu, by rw [← eu]; exact z.2.2.1⟩
            · exact Or.inl ⟨k, eu⟩
        refine ⟨l, l1, l2, l3, fun C c1 c2 c3 => ?_⟩
        have := c3 p u q (l4 C c1 c2 c3) (hngone l l1 l2 l3) hpas hq
        rw [ev] at this; exact this
theorem s_handOnH {S : CS} {X : XT} (hX : XI X) (hb : RCb S X) (hN : VLn S X) (hs : sndH S X) {p : Nat} (hp : p < 150) (hr : rch X p) {post : Int32 → CS → Prop} (h : ∀ (r : Int32) S', eqH S S' → isb r → sndH S' X → (r = 0 → gC_holdings S' = gC_holdings S ∧ cloH S X p) → (¬ r = 0 → muH S' < muH S) → post r S') : wp_X2_handOn S (nI p) post := by
  have hn := hX.1
  have hc := hX.2.2.2.2.1 p hp
  obtain ⟨m1, m2, m3, m4⟩ := hb.2.2.2 p hp
  unfold wp_X2_handOn
  rw [show nI p * (16 : Int32) = nI (p * 16) from pk_mul p 16, n_cl (by omega)]
  refine ⟨⟨xn (by omega), by omega⟩, fun S1 e1 => ?_⟩
  have heq1 : eqH S S1 := by subst e1; exact eqH_r S
  have hho1 : gC_holdings S1 = gC_holdings S := by subst e1; rfl
  have hb1 := eqL_b heq1.1 hb
  refine s_renew hX hb1 hp (fun v hv => ?_) (fun S2 heq2 hho2 hf => ?_)
  · rw [hho1, show gC_handed S1 = va_cpy (gC_holdings S) (gC_handed S) (p * 16) 0 16 by subst e1; rfl, pk_cpy_in (by omega) (by omega)]
    congr 1
    omega
  · have heq02 := eqH_t heq1 heq2
    have hho02 : gC_holdings S2 = gC_holdings S := hho2.trans hho1
    have hf0 : aft S X p (gC_handed S2) := by
      have e3 : gC_renR S1 = gC_renR S := by unfold gC_renR; rw [heq1.1.2.1]
      have e4 : gC_usedR S1 = gC_usedR S := by unfold gC_usedR; rw [heq1.1.2.1]
      unfold aft at *
      rw [hho1, e3, e4, heq1.2.2.1, heq1.2.2.2.1] at hf
      exact hf
    have hs2 : sndH S2 X := by unfold sndH at *; rw [hho02]; exact hs
    have key : ∀ (k i : Nat) (x2 : Int32) (S3 : CS), i + k = x_cn X p → eqH S S3 → gC_handed S3 = gC_handed S2 → isb x2 → sndH S3 X → (x2 = 0 → gC_holdings S3 = gC_holdings S ∧ ∀ j, j < i → ∀ q, q < 150 → gC_nexts S (4 * p + j) = nI q → ∀ v, v < x_nv X → gC_handed S2 v &&& (gC_holdings S (16 * q + v) ^^^ (-1)) = 0) → (¬ x2 = 0 → muH S3 < muH S) → wp_X2_handOn_27 post (k + 1) (nI p) x2 (nI i) S3 := by
      intro k
      induction k with
      | zero =>
        intro i x2 S3 hi heq hh h2 hs3 h20 h21
        show ws_X2_handOn_27 _ post _ _ _ S3
        unfold ws_X2_handOn_27
        refine s_nextCount hp ?_
        rw [(eqL_n heq.1).2.1, m1]
        refine brt ((xc (by omega) (by omega)).mpr (by omega)) ⟨h2, h x2 S3 heq h2 hs3 (fun z => ⟨(h20 z).1, gC_handed S2, hf0, fun q v he hv => ?_⟩) h21⟩
        obtain ⟨j, hj, e⟩ := m3 q he
        exact (h20 z).2 j (by omega) q (hX.2.2.2.1 p q he).2 e v hv
      | succ k ih =>
        intro i x2 S3 hi heq hh h2 hs3 h20 h21
        show ws_X2_handOn_27 _ post _ _ _ S3
        unfold ws_X2_handOn_27
        refine s_nextCount hp ?_
        rw [(eqL_n heq.1).2.1, m1]
        refine brf (fun q => absurd ((xc (by omega) (by omega)).mp q) (by omega)) (s_nextOf hp (by omega) ?_)
        rw [(eqL_n heq.1).1]
        obtain ⟨q, hq, hqn, hqe⟩ := m2 i (by omega)
        rw [hqn]
        refine s_takeOver hX (RCv_eq heq.1.1 hb.1) hs3 hq (by rw [hh]; exact aft_snd hX hb hN hs hp hr hf0 hqe) (fun r S4 a1 a2 a3 a4 a5 a6 => ?_)
        have go : ∀ (x2' : Int32), isb x2' → (x2' = 0 → gC_holdings S4 = gC_holdings S ∧ ∀ j, j < i + 1 → ∀ q, q < 150 → gC_nexts S (4 * p + j) = nI q → ∀ v, v < x_nv X → gC_handed S2 v &&& (gC_holdings S (16 * q + v) ^^^ (-1)) = 0) → (¬ x2' = 0 → muH S4 < muH S) → wp_X2_handOn_57 (wp_X2_handOn_27 post (k + 1)) post (nI p) x2' (nI i) S4 := by
          intro x2' b1 b2 b3
          unfold wp_X2_handOn_57
          intro x3 e3
          subst e3
          rw [show nI i + (1 : Int32) = nI (i + 1) from nI_1 i]
          exact ih (i + 1) x2' S4 (by omega) (eqH_t heq a1) (a2.trans hh) b1 a4 b2 b3
        refine br (fun c => go x2 h2 (fun z => ?_) (fun z => ?_)) (fun c => go 1 (Or.inr rfl) (fun z => absurd z (by decide)) (fun _ => ?_))
        · obtain ⟨f1, f2⟩ := a5 c
          obtain ⟨f3, f4⟩ := h20 z
          refine ⟨by rw [f1]; exact f3, fun j hj b hb2 hbn v hv => ?_⟩
          by_cases e : j = i
          · subst e
            have : b = q := n_inj (by omega) (by omega) (hbn.symm.trans hqn)
            subst this
            have := f2 v hv
            rw [hh, f3] at this; exact this
          · exact f4 j (by omega) b hb2 hbn v hv
        · rw [(a5 c).1]; exact h21 z
        · have := a6 c
          by_cases z : x2 = 0
          · have e : muH S3 = muH S := by unfold muH; rw [(h20 z).1]
            omega
          · exact Nat.lt_trans this (h21 z)
    exact ⟨_, key (x_cn X p) 0 0 S2 (by omega) heq02 rfl (Or.inl rfl) hs2 (fun _ => ⟨hho02, fun j hj => by omega⟩) (fun z => absurd rfl z)⟩

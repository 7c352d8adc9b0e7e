/-! acts as such: number, variable, path, receiver -/
def lfA (X : XT) (o w f : Nat) : Prop := x_lv X o = 1 ∨ w = 0 ∨ w % 8 = f + 1
def gvA (X : XT) (a o w t v f : Nat) : Prop := ((a = 7 ∨ a = 8) ∧ t = v) ∨ (a = 3 ∧ o = v ∧ ¬ wi X v w ∧ lfA X o w f)
def tkA (X : XT) (a o w v f : Nat) : Prop := o = v ∧ ((a = 2 ∧ lfA X o w f) ∨ a = 5 ∨ (a = 8 ∧ x_so X v = 2))
def wnA (X : XT) (a o w f : Nat) : Prop := a = 8 ∨ (a ≠ 0 ∧ a ≠ 5 ∧ a ≠ 6 ∧ a ≠ 8 ∧ ¬ (a = 3 ∧ ¬ wi X o w) ∧ lfA X o w f)
def usA (X : XT) (a o w r : Nat) : Prop := (a = 8 ∧ o = r) ∨ (onp a ∧ o = r ∧ x_so X r ≠ 0 ∧ 0 < w)
def okA (X : XT) (a o w t : Nat) : Prop :=
  a = 0 ∨
  ((a = 5 ∨ a = 6) ∧ o < x_nv X ∧ w = 0) ∨
  ((a = 1 ∨ a = 3 ∨ a = 4) ∧ isPl X o w ∧ (x_so X o ≠ 0 → w ≠ 0) ∧ (a ≠ 1 → x_so X o ≠ 1)) ∨
  (a = 2 ∧ isPl X o w ∧ x_so X o = 0 ∧ ¬ wi X o w) ∨
  (a = 7 ∧ isPl X o w ∧ t < x_nv X ∧ x_so X t ≠ 0 ∧ (x_so X o ≠ 0 → w ≠ 0) ∧ (x_so X t = 2 → x_so X o ≠ 1)) ∨
  (a = 8 ∧ o < x_nv X ∧ t < x_nv X ∧ x_so X o ≠ 0 ∧ x_so X t = x_so X o ∧ t ≠ o ∧ w = 0)
theorem okA_a {X : XT} {a o w t : Nat} (h : okA X a o w t) : a ≤ 8 := by unfold okA at h; omega
theorem okA_o {X : XT} {a o w t : Nat} (h : okA X a o w t) (h0 : a ≠ 0) : o < x_nv X := by unfold okA isPl at h; omega
theorem okA_w {X : XT} {a o w t : Nat} (h : okA X a o w t) (h0 : a ≠ 0) : w < 4096 := by unfold okA isPl at h; omega
theorem okA_t {X : XT} {a o w t : Nat} (h : okA X a o w t) (h0 : a = 7 ∨ a = 8) : t < x_nv X ∧ x_so X t ≠ 0 := by unfold okA at h; omega
theorem okA_d {X : XT} {a o w t : Nat} (hX : XI X) (h : okA X a o w t) (h0 : a ≠ 0) : 1 < x_lv X o → w ≠ 0 → 1 ≤ w % 8 ∧ w % 8 ≤ x_lv X o := by
  intro h1 h2
  have ho := okA_o h h0
  have hv := (hX.2.1 o ho).2.2.2
  have hp : isPl X o w := by
    rcases h with h | ⟨_, _, h⟩ | ⟨_, h, _⟩ | ⟨_, h, _⟩ | ⟨_, h, _⟩ | ⟨_, _, _, _, _, _, h⟩
    · exact absurd h h0
    · exact absurd h h2
    · exact h
    · exact h
    · exact h
    · exact absurd h h2
  have h3 : x_so X o = 0 := Classical.byContradiction (fun q => by have := hv q; omega)
  have h4 := hp.2.2.2 h3
  have h5 : 1 ≤ w % 8 := by
    have := hp.2.1.2
    unfold okp at this
    omega
  omega
def un_ {α : Type} (f : Nat → α) (p : Nat) (a : α) : Nat → α := fun q => if q = p then a else f q
theorem un_s {α : Type} {f : Nat → α} {p : Nat} {a : α} : un_ f p a p = a := if_pos rfl
theorem un_n {α : Type} {f : Nat → α} {p q : Nat} {a : α} (h : q ≠ p) : un_ f p a q = f q := if_neg h
def xset (X : XT) (p a o w t : Nat) : XT := (x_nv X, x_so X, x_lv X, x_af X, un_ (x_ac X) p a, un_ (x_of X) p o, un_ (x_pa X) p w, un_ (x_to X) p t, x_ed X, x_cn X)
section XS
variable {X : XT} {p a o w t q : Nat}
theorem xs_ac : x_ac (xset X p a o w t) p = a := un_s
theorem xs_of : x_of (xset X p a o w t) p = o := un_s
theorem xs_pa : x_pa (xset X p a o w t) p = w := un_s
theorem xs_to : x_to (xset X p a o w t) p = t := un_s
theorem xn_ac (h : q ≠ p) : x_ac (xset X p a o w t) q = x_ac X q := un_n h
theorem xn_of (h : q ≠ p) : x_of (xset X p a o w t) q = x_of X q := un_n h
theorem xn_pa (h : q ≠ p) : x_pa (xset X p a o w t) q = x_pa X q := un_n h
theorem xn_to (h : q ≠ p) : x_to (xset X p a o w t) q = x_to X q := un_n h
end XS
theorem cnt_upd {f : Nat → Nat} {p a n k : Nat} (hp : p < n) : cnt (fun q => un_ f p a q = k) n + (if f p = k then 1 else 0) = cnt (fun q => f q = k) n + (if a = k then 1 else 0) := by
  induction n with
  | zero => omega
  | succ n ih =>
    by_cases h : p = n
    · subst h
      have e : cnt (fun q => un_ f p a q = k) p = cnt (fun q => f q = k) p := cnt_congr (fun j hj => by rw [un_n (by omega)])
      have e1 : cnt (fun q => un_ f p a q = k) (p + 1) = cnt (fun q => un_ f p a q = k) p + (if a = k then 1 else 0) := by
        by_cases h : a = k
        · rw [cnt_s_t (by rw [un_s]; exact h), if_pos h]
        · rw [cnt_s_f (by rw [un_s]; exact h), if_neg h]; rfl
      have e2 : cnt (fun q => f q = k) (p + 1) = cnt (fun q => f q = k) p + (if f p = k then 1 else 0) := by
        by_cases h : f p = k
        · rw [cnt_s_t (P := fun q => f q = k) h, if_pos h]
        · rw [cnt_s_f (P := fun q => f q = k) h, if_neg h]; rfl
      rw [e1, e2, e]
      omega
    · have := ih (by omega)
      have e1 : un_ f p a n = f n := un_n (fun q => h q.symm)
      by_cases hk : f n = k
      · rw [cnt_s_t (P := fun q => un_ f p a q = k) (by rw [e1]; exact hk), cnt_s_t (P := fun q => f q = k) hk]; omega
      · rw [cnt_s_f (P := fun q => un_ f p a q = k) (by rw [e1]; exact hk), cnt_s_f (P := fun q => f q = k) hk]; omega
theorem xset_XI {X : XT} {p a o w t : Nat} (hX : XI X) (hp : p < 150) (hk : okA X a o w t) (hc : cnt (fun q => x_ac (xset X p a o w t) q = 7) 150 ≤ 60) : XI (xset X p a o w t) := by
  refine ⟨hX.1, hX.2.1, fun q hq => ?_, hX.2.2.2.1, hX.2.2.2.2.1, hc⟩
  by_cases h : q = p
  · subst h
    unfold actOk
    rw [xs_ac, xs_of, xs_pa, xs_to]
    exact hk
  · unfold actOk
    rw [xn_ac h, xn_of h, xn_pa h, xn_to h]
    exact hX.2.2.1 q hq
/-! words of leaves -/
def LV (X : XT) (v w i : Nat) : Prop := ∃ f, i = 4 * v + f ∧ f < x_lv X v ∧ lfA X v w f
theorem mask_b : ∀ v, v < 16 → ∀ c, c < 5 → ∀ i, i < 64 → lb ((((1 : Int64) <<< ((nI c).toInt64 &&& 63)) - 1) <<< ((nI (v * 4)).toInt64 &&& 63)) i = decide (4 * v ≤ i ∧ i < 4 * v + c) := by decide +kernel
theorem LV_out {X : XT} (hX : XI X) {v w : Nat} (hv : v < x_nv X) {r : Int64} (hr : ∀ i, i < 64 → (lb r i = true ↔ LV X v w i)) : ∀ i, 4 * x_nv X ≤ i → lb r i = false := fun i hi => by
  by_cases h : i < 64
  · cases e : lb r i
    · rfl
    · obtain ⟨f, h1, h2, _⟩ := (hr i h).mp e
      have := (hX.2.1 v hv).2.2.1
      omega
  · exact lb_big (by omega)
section CPUT
variable {S : CS} {X : XT}
theorem s_isWithin (hX : XI X) (hv : RCv S X) {v w : Nat} (hvn : v < x_nv X) (hw : w < 4096) {post : Int32 → CS → Prop} (h : post (bi (wi X v w)) S) : wp_X4_isWithin S (nI v) (nI w) post := by
  have hn := hX.1
  have h4 := hX.2.1 v hvn
  unfold wp_X4_isWithin wp_X3_behindFirst
  rw [n_s3 (by omega)]
  refine s_hasParts hX hv (bi_br (fun c => ?_) (fun c => ?_))
  · obtain ⟨v2, h1, h2, h3⟩ := c
    have := n_inj (by omega) (by omega) h2
    subst this
    refine br (fun c2 => lf0 h ?_) (fun c2 => lf1 h ?_)
    · have := (xe (a := w / 8) (b := 0) (by omega) (by omega)).mp c2
      intro q; have := q.1 h3; omega
    · have : w / 8 ≠ 0 := fun e => c2 (by rw [e]; rfl)
      exact ⟨fun _ => by omega, fun _ => by omega⟩
  · have hl : ¬ 1 < x_lv X v := fun q => c ⟨v, hvn, rfl, q⟩
    refine br (fun c2 => lf0 h ?_) (fun c2 => lf1 h ?_)
    · have := (xe (a := w) (b := 0) (by omega) (by omega)).mp c2
      intro q; have := q.2 (by omega); omega
    · have : w ≠ 0 := fun e => c2 (by rw [e]; rfl)
      exact ⟨fun q => absurd q hl, fun _ => by omega⟩
theorem s_leavesOf (hX : XI X) (hv : RCv S X) {v w : Nat} (hvn : v < x_nv X) (hw : w < 4096) (hd : 1 < x_lv X v → w ≠ 0 → 1 ≤ w % 8 ∧ w % 8 ≤ x_lv X v) {post : Int64 → CS → Prop} (h : ∀ r, (∀ i, i < 64 → (lb r i = true ↔ LV X v w i)) → post r S) : wp_X4_leavesOf S (nI v) (nI w) post := by
  have hn := hX.1
  have h4 := hX.2.1 v hvn
  have hall : lfA X v w = (fun _ => True) → wp_X4_leavesOf_33 post (nI v) S := by
    intro hl
    unfold wp_X4_leavesOf_33
    refine ⟨vp_in_nI (by omega) (by omega), fun x3 e3 => ?_⟩
    subst e3
    refine h _ (fun i hi => ?_)
    rw [n_cl (by omega), (hv.2.1 v hvn).2, show nI v * (4 : Int32) = nI (v * 4) from pk_mul v 4, mask_b v (by omega) (x_lv X v) (by omega) i hi, decide_eq_true_iff]
    constructor
    · intro q; exact ⟨i - 4 * v, by omega, by omega, by rw [hl]; trivial⟩
    · rintro ⟨f, e, hf, _⟩; omega
  unfold wp_X4_leavesOf
  refine s_has hX hv (bi_brn (fun c => ?_) (fun c => absurd ⟨v, hvn, rfl⟩ c))
  refine s_hasParts hX hv (bi_br (fun c => ?_) (fun c => hall ?_))
  · obtain ⟨v2, h1, h2, h3⟩ := c
    have := n_inj (by omega) (by omega) h2
    subst this
    refine br (fun c2 => hall ?_) (fun c2 => ?_)
    · have := (xe (a := w) (b := 0) (by omega) (by omega)).mp c2
      funext f; exact propext ⟨fun _ => trivial, fun _ => Or.inr (Or.inl this)⟩
    · have hw0 : w ≠ 0 := fun e => c2 (by rw [e]; rfl)
      have hd := hd h3 hw0
      unfold wp_X3_firstDigit wp_X6_leafBit
      dsimp only
      rw [n_d8 (by omega), show nI (w % 8) - (1 : Int32) = nI (w % 8 - 1) from pk_sub (a := w % 8) (b := 1) (by omega), show nI v * (4 : Int32) = nI (v * 4) from pk_mul v 4, nI_add]
      refine h _ (fun i hi => ?_)
      rw [lb_one (by omega), decide_eq_true_iff]
      constructor
      · intro e; exact ⟨w % 8 - 1, by omega, by omega, Or.inr (Or.inr (by omega))⟩
      · rintro ⟨f, e, hf, hl⟩
        unfold lfA at hl
        omega
  · have hl : ¬ 1 < x_lv X v := fun q => c ⟨v, hvn, rfl, q⟩
    funext f; exact propext ⟨fun _ => trivial, fun _ => Or.inl (by omega)⟩
theorem s_wanted (hX : XI X) (hv : RCv S X) {a o w t : Nat} (hk : okA X a o w t) {x3 x4 : Int32} (hx : a ≠ 0 → x3 = nI o ∧ x4 = nI w) {post : Int64 → CS → Prop} (h : ∀ r, (∀ i, i < 64 → (lb r i = true ↔ ∃ f, i = 4 * o + f ∧ f < x_lv X o ∧ a ≠ 0 ∧ wnA X a o w f)) → post r S) : wp_X0_leavesWanted S (nI a) x3 x4 post := by
  have ha := okA_a hk
  have h0 : (∀ f, ¬ (a ≠ 0 ∧ f < x_lv X o ∧ wnA X a o w f)) → post 0 S := fun hf => h 0 (fun i hi => ⟨fun e => (by rw [lb_0] at e; cases e), fun ⟨f, _, h2, h3, h4⟩ => absurd ⟨h3, h2, h4⟩ (hf f)⟩)
  have h1 : a ≠ 0 → (∀ f, f < x_lv X o → (wnA X a o w f ↔ lfA X o w f)) → wp_X0_leavesWanted_49 post x3 x4 1 S := fun ha0 hf => by
    obtain ⟨rfl, rfl⟩ := hx ha0
    unfold wp_X0_leavesWanted_49
    refine brf (by decide) (s_leavesOf hX hv (okA_o hk ha0) (okA_w hk ha0) (okA_d hX hk ha0) (fun r hr => h r (fun i hi => ?_)))
    rw [hr i hi]
    constructor
    · rintro ⟨f, e, h2, h3⟩; exact ⟨f, e, h2, ha0, (hf f h2).mpr h3⟩
    · rintro ⟨f, e, h2, _, h3⟩; exact ⟨f, e, h2, (hf f h2).mp h3⟩
  have h8 : a = 8 → x_lv X o = 1 := fun e => by
    have := (hX.2.1 o (okA_o hk (by omega))).2.2.2
    unfold okA at hk
    exact this (by omega)
  unfold wp_X0_leavesWanted wp_X0_leavesWanted_44 wp_X0_leavesWanted_48
  refine br (fun c => h1 ?_ ?_) (fun c1 => br (fun c => h1 ?_ ?_) (fun c2 => br (fun c => h1 ?_ ?_) (fun c4 => br (fun c => h1 ?_ ?_) (fun c7 => br (fun c => h1 ?_ ?_) (fun c8 => brn (fun c => ?_) (fun c => ?_))))))
  any_goals (first | (have e1 := (xe (a := a) (b := 1) (by omega) (by omega)).mp c; omega) | (have e1 := (xe (a := a) (b := 2) (by omega) (by omega)).mp c; omega) | (have e1 := (xe (a := a) (b := 4) (by omega) (by omega)).mp c; omega) | (have e1 := (xe (a := a) (b := 7) (by omega) (by omega)).mp c; omega) | (have e1 := (xe (a := a) (b := 8) (by omega) (by omega)).mp c; omega))
  · have e1 := (xe (a := a) (b := 1) (by omega) (by omega)).mp c
    intro f hf; unfold wnA; simp [e1]
  · have e1 := (xe (a := a) (b := 2) (by omega) (by omega)).mp c
    intro f hf; unfold wnA; simp [e1]
  · have e1 := (xe (a := a) (b := 4) (by omega) (by omega)).mp c
    intro f hf; unfold wnA; simp [e1]
  · have e1 := (xe (a := a) (b := 7) (by omega) (by omega)).mp c
    intro f hf; unfold wnA; simp [e1]
  · have e1 := (xe (a := a) (b := 8) (by omega) (by omega)).mp c
    intro f hf; exact ⟨fun _ => Or.inl (h8 e1), fun _ => Or.inl e1⟩
  · refine brt rfl (h0 (fun f q => ?_))
    have n1 : a ≠ 1 := fun e => c1 (by rw [e]; rfl)
    have n2 : a ≠ 2 := fun e => c2 (by rw [e]; rfl)
    have n4 : a ≠ 4 := fun e => c4 (by rw [e]; rfl)
    have n7 : a ≠ 7 := fun e => c7 (by rw [e]; rfl)
    have n8 : a ≠ 8 := fun e => c8 (by rw [e]; rfl)
    have n3 : a ≠ 3 := fun e => c (by rw [e]; rfl)
    obtain ⟨q1, q2, q3⟩ := q
    rcases q3 with q3 | q3 <;> omega
  · have e3 := (xe (a := a) (b := 3) (by omega) (by omega)).mp c
    subst e3
    obtain ⟨rfl, rfl⟩ := hx (by omega)
    refine s_isWithin hX hv (okA_o hk (by omega)) (okA_w hk (by omega)) (bi_br (fun c => ?_) (fun c => ?_))
    · refine h1 (by omega) (fun f hf => ?_)
      unfold wnA; simp [c]
    · refine brt rfl (h0 (fun f q => ?_))
      obtain ⟨q1, q2, q3⟩ := q
      rcases q3 with q3 | q3
      · omega
      · exact q3.2.2.2.2.1 ⟨rfl, c⟩
theorem s_given (hX : XI X) (hv : RCv S X) {a o w t : Nat} (hk : okA X a o w t) {x3 x4 x5 : Int32} (hx : a ≠ 0 → x3 = nI o ∧ x4 = nI w) (hx5 : a = 7 ∨ a = 8 → x5 = nI t) {post : Int64 → CS → Prop} (h : ∀ r, (∀ v f, v < x_nv X → f < x_lv X v → (lb r (4 * v + f) = true ↔ gvA X a o w t v f)) → (∀ i, 4 * x_nv X ≤ i → lb r i = false) → post r S) : wp_X0_leavesGiven S (nI a) x3 x4 x5 post := by
  have ha := okA_a hk
  have hn := hX.1
  have hl4 : ∀ v, v < x_nv X → x_lv X v ≤ 4 := fun v hv => (hX.2.1 v hv).2.2.1
  have h0 : (∀ v f, v < x_nv X → f < x_lv X v → ¬ gvA X a o w t v f) → post 0 S := fun hf => h 0 (fun v f hv hf2 => ⟨fun e => (by rw [lb_0] at e; cases e), fun q => absurd q (hf v f hv hf2)⟩) (fun i _ => lb_0 i)
  have h7 : a = 7 ∨ a = 8 → wp_X0_leavesGiven_12 post x5 S := fun e => by
    have ht := okA_t hk e
    have h1 := (hX.2.1 t ht.1).2.2.2 ht.2
    unfold wp_X0_leavesGiven_12
    rw [hx5 e]
    refine s_leavesOf (w := 0) hX hv ht.1 (by omega) (fun q => by omega) (fun r hr => h r (fun v f hv hf => ?_) (LV_out hX ht.1 hr))
    rw [hr (4 * v + f) (by have := hl4 v hv; omega)]
    constructor
    · rintro ⟨f2, e2, h2, _⟩
      have := hl4 v hv
      exact Or.inl ⟨e, by omega⟩
    · rintro (⟨_, e2⟩ | ⟨e2, _⟩)
      · subst e2; exact ⟨f, rfl, hf, Or.inl h1⟩
      · omega
  unfold wp_X0_leavesGiven wp_X0_leavesGiven_44
  refine br (fun c => h7 (Or.inl ((xe (a := a) (b := 7) (by omega) (by omega)).mp c))) (fun c7 => brn (fun c8 => brn (fun c3 => ?_) (fun c3 => ?_)) (fun c => h7 (Or.inr ((xe (a := a) (b := 8) (by omega) (by omega)).mp c))))
  · have n3 : a ≠ 3 := fun e => c3 (by rw [e]; rfl)
    have n7 : a ≠ 7 := fun e => c7 (by rw [e]; rfl)
    have n8 : a ≠ 8 := fun e => c8 (by rw [e]; rfl)
    refine brt rfl (h0 (fun v f _ _ q => ?_))
    rcases q with q | q <;> omega
  · have e3 := (xe (a := a) (b := 3) (by omega) (by omega)).mp c3
    subst e3
    obtain ⟨rfl, rfl⟩ := hx (by omega)
    have ho := okA_o hk (by omega)
    refine s_isWithin hX hv ho (okA_w hk (by omega)) (bi_brn (fun c => ?_) (fun c => ?_))
    · refine brt rfl (h0 (fun v f _ _ q => ?_))
      rcases q with q | q
      · omega
      · rw [← q.2.1] at q; exact q.2.2.1 c
    · refine brf (by decide) (s_leavesOf hX hv ho (okA_w hk (by omega)) (okA_d hX hk (by omega)) (fun r hr => h r (fun v f hv hf => ?_) (LV_out hX ho hr)))
      have := hl4 v hv
      have := hl4 o ho
      rw [hr (4 * v + f) (by omega)]
      constructor
      · rintro ⟨f2, e2, h2, h3⟩
        have e3 : o = v := by omega
        have e4 : f = f2 := by omega
        subst e3; subst e4
        exact Or.inr ⟨rfl, rfl, c, h3⟩
      · rintro (q | ⟨_, q2, _, q4⟩)
        · omega
        · subst q2; exact ⟨f, rfl, hf, q4⟩
theorem s_taken (hX : XI X) (hv : RCv S X) {a o w t : Nat} (hk : okA X a o w t) {x3 x4 : Int32} (hx : a ≠ 0 → x3 = nI o ∧ x4 = nI w) {post : Int64 → CS → Prop} (h : ∀ r, (∀ v f, v < x_nv X → f < x_lv X v → (lb r (4 * v + f) = true ↔ tkA X a o w v f)) → (∀ i, 4 * x_nv X ≤ i → lb r i = false) → post r S) : wp_X0_leavesTaken S (nI a) x3 x4 post := by
  have ha := okA_a hk
  have hn := hX.1
  have hl4 : ∀ v, v < x_nv X → x_lv X v ≤ 4 := fun v hv => (hX.2.1 v hv).2.2.1
  have h0 : (∀ v f, v < x_nv X → f < x_lv X v → ¬ tkA X a o w v f) → post 0 S := fun hf => h 0 (fun v f hv hf2 => ⟨fun e => (by rw [lb_0] at e; cases e), fun q => absurd q (hf v f hv hf2)⟩) (fun i _ => lb_0 i)
  have h1 : a ≠ 0 → (∀ f, f < x_lv X o → (tkA X a o w o f ↔ lfA X o w f)) → wp_X0_leavesTaken_32 post x3 x4 1 S := fun ha0 hf => by
    obtain ⟨rfl, rfl⟩ := hx ha0
    have ho := okA_o hk ha0
    unfold wp_X0_leavesTaken_32
    refine brf (by decide) (s_leavesOf hX hv ho (okA_w hk ha0) (okA_d hX hk ha0) (fun r hr => h r (fun v f hv hf2 => ?_) (LV_out hX ho hr)))
    have := hl4 v hv
    have := hl4 o ho
    rw [hr (4 * v + f) (by omega)]
    constructor
    · rintro ⟨f2, e2, h2, h3⟩
      have e3 : o = v := by omega
      have e4 : f = f2 := by omega
      subst e3; subst e4
      exact (hf f h2).mpr h3
    · intro q
      have e := q.1
      subst e
      exact ⟨f, rfl, hf2, (hf f hf2).mp q⟩
  unfold wp_X0_leavesTaken wp_X0_leavesTaken_27 wp_X0_leavesTaken_31
  refine br (fun c => ?_) (fun c2 => br (fun c => ?_) (fun c5 => brn (fun c8 => ?_) (fun c8 => ?_)))
  · have e := (xe (a := a) (b := 2) (by omega) (by omega)).mp c
    refine h1 (by omega) (fun f hf => ⟨fun q => ?_, fun q => ⟨rfl, Or.inl ⟨e, q⟩⟩⟩)
    rcases q.2 with q | q | q
    · exact q.2
    · omega
    · omega
  · have e := (xe (a := a) (b := 5) (by omega) (by omega)).mp c
    have hw0 : w = 0 := by unfold okA at hk; omega
    exact h1 (by omega) (fun f hf => ⟨fun q => Or.inr (Or.inl hw0), fun q => ⟨rfl, Or.inr (Or.inl e)⟩⟩)
  · have n2 : a ≠ 2 := fun e => c2 (by rw [e]; rfl)
    have n5 : a ≠ 5 := fun e => c5 (by rw [e]; rfl)
    have n8 : a ≠ 8 := fun e => c8 (by rw [e]; rfl)
    refine brt rfl (h0 (fun v f _ _ q => ?_))
    have := q.2
    omega
  · have e := (xe (a := a) (b := 8) (by omega) (by omega)).mp c8
    have hw0 : w = 0 := by unfold okA at hk; omega
    have ho := okA_o hk (by omega)
    obtain ⟨e3, e4⟩ := hx (by omega)
    rw [e3]
    refine s_isSo hX hv (bi_br (fun c => ?_) (fun c => ?_))
    · obtain ⟨v2, q1, q2, q3⟩ := c
      have := n_inj (by omega) (by omega) q2
      subst this
      rw [← e3]
      exact h1 (by omega) (fun f hf => ⟨fun q => Or.inr (Or.inl hw0), fun q => ⟨rfl, Or.inr (Or.inr ⟨e, q3⟩)⟩⟩)
    · refine brt rfl (h0 (fun v f _ _ q => ?_))
      rcases q.2 with q2 | q2 | q2
      · omega
      · omega
      · rw [← q.1] at q2; exact c ⟨o, ho, rfl, q2.2⟩
theorem s_onPlace {a : Nat} (ha : a ≤ 8) {post : Int32 → CS → Prop} (h : post (bi (onp a)) S) : wp_X0_isOnPlace S (nI a) post := by
  unfold wp_X0_isOnPlace
  refine br (fun c => lf1 h ?_) (fun c1 => br (fun c => lf1 h ?_) (fun c2 => br (fun c => lf1 h ?_) (fun c3 => br (fun c => lf1 h ?_) (fun c4 => brn (fun c7 => lf0 h ?_) (fun c => lf1 h ?_)))))
  · exact Or.inl ((xe (a := a) (b := 1) (by omega) (by omega)).mp c)
  · exact Or.inr (Or.inl ((xe (a := a) (b := 2) (by omega) (by omega)).mp c))
  · exact Or.inr (Or.inr (Or.inl ((xe (a := a) (b := 3) (by omega) (by omega)).mp c)))
  · exact Or.inr (Or.inr (Or.inr (Or.inl ((xe (a := a) (b := 4) (by omega) (by omega)).mp c))))
  · have n1 : a ≠ 1 := fun e => c1 (by rw [e]; rfl)
    have n2 : a ≠ 2 := fun e => c2 (by rw [e]; rfl)
    have n3 : a ≠ 3 := fun e => c3 (by rw [e]; rfl)
    have n4 : a ≠ 4 := fun e => c4 (by rw [e]; rfl)
    have n7 : a ≠ 7 := fun e => c7 (by rw [e]; rfl)
    unfold onp; omega
  · exact Or.inr (Or.inr (Or.inr (Or.inr ((xe (a := a) (b := 7) (by omega) (by omega)).mp c))))
theorem okp_pos {w : Nat} (h : okp 4 w) (h0 : w ≠ 0) : w % 8 ≠ 0 := by
  rcases h with h | h
  · exact absurd h h0
  · omega
theorem s_refUsed (hX : XI X) (hv : RCv S X) {a o w t : Nat} (hk : okA X a o w t) {x3 x4 : Int32} (hx : a ≠ 0 → x3 = nI o ∧ x4 = nI w) {post : Int32 → CS → Prop} (h : ∀ r, (usA X a o w o → r = nI o) → (¬ usA X a o w o → r = -1) → post r S) : wp_X0_referenceUsed S (nI a) x3 x4 post := by
  have ha := okA_a hk
  have hn := hX.1
  have hno : ¬ onp a → a ≠ 8 → post (-1) S := fun h1 h2 => h _ (fun q => by rcases q with q | q; exact absurd q.1 h2; exact absurd q.1 h1) (fun _ => rfl)
  have h24 : ¬ (onp a ∧ x_so X o ≠ 0 ∧ 0 < w) → wp_X0_referenceUsed_24 post (nI a) x3 0 S := fun hnot => by
    unfold wp_X0_referenceUsed_24
    refine brnf rfl (brn (fun c => h _ (fun q => ?_) (fun _ => rfl)) (fun c => h _ (fun _ => (hx ?_).1) (fun q => ?_)))
    · rcases q with q | q
      · exact absurd (by rw [q.1]; rfl) c
      · exact absurd ⟨q.1, q.2.2⟩ hnot
    · have := (xe (a := a) (b := 8) (by omega) (by omega)).mp c
      omega
    · exact absurd (Or.inl ⟨(xe (a := a) (b := 8) (by omega) (by omega)).mp c, rfl⟩) q
  unfold wp_X0_referenceUsed wp_X0_referenceUsed_23
  refine s_onPlace ha (bi_br (fun c => ?_) (fun c => h24 (fun q => c q.1)))
  have ha0 : a ≠ 0 := by unfold onp at c; omega
  have ho := okA_o hk ha0
  have hw := okA_w hk ha0
  obtain ⟨rfl, rfl⟩ := hx ha0
  have hp : isPl X o w := by
    unfold onp at c
    rcases hk with h | ⟨_, _, h⟩ | ⟨_, h, _⟩ | ⟨_, h, _⟩ | ⟨_, h, _⟩ | ⟨_, _, _, _, _, _, h⟩
    · exact absurd h ha0
    · omega
    · exact h
    · exact h
    · exact h
    · omega
  unfold wp_X4_goesThrough
  refine s_isRef hX hv (bi_br (fun c2 => ?_) (fun c2 => ?_))
  · obtain ⟨v2, q1, q2, q3⟩ := c2
    have := n_inj (by omega) (by omega) q2
    subst this
    unfold wp_X3_firstDigit
    rw [n_d8 (by omega)]
    refine brn (fun c3 => brt rfl (h24 (fun q => c3 ?_))) (fun c3 => brf (by decide) ?_)
    · rcases hp.2.2.1 q3 with e | e
      · omega
      · rw [e]; rfl
    · have e5 := (xe (a := w % 8) (b := 5) (by omega) (by omega)).mp c3
      unfold wp_X0_referenceUsed_24
      refine brnt (by decide) (h _ (fun _ => rfl) (fun q => absurd (Or.inr ⟨c, rfl, q3, by omega⟩) q))
  · refine brt rfl (h24 (fun q => c2 ⟨o, ho, rfl, q.2.1⟩))
theorem s_refRen (hX : XI X) (hv : RCv S X) {a o w t : Nat} (hk : okA X a o w t) {x3 x5 : Int32} (hx : a ≠ 0 → x3 = nI o) (hx5 : a = 7 ∨ a = 8 → x5 = nI t) {post : Int32 → CS → Prop} (h : ∀ r, (a = 7 ∨ a = 8 → r = nI t) → (a = 5 ∧ x_so X o ≠ 0 → r = nI o) → (¬ (a = 7 ∨ a = 8) ∧ ¬ (a = 5 ∧ x_so X o ≠ 0) → r = -1) → post r S) : wp_X0_referenceRenewed S (nI a) x3 x5 post := by
  have ha := okA_a hk
  have hn := hX.1
  unfold wp_X0_referenceRenewed
  refine brn (fun c5 => br (fun c7 => ?_) (fun c7 => brn (fun c8 => ?_) (fun c8 => ?_))) (fun c5 => ?_)
  · have e := (xe (a := a) (b := 7) (by omega) (by omega)).mp c7
    exact h _ (fun q => hx5 q) (fun q => by omega) (fun q => by omega)
  · have n5 : a ≠ 5 := fun e => c5 (by rw [e]; rfl)
    have n7 : a ≠ 7 := fun e => c7 (by rw [e]; rfl)
    have n8 : a ≠ 8 := fun e => c8 (by rw [e]; rfl)
    exact h _ (fun q => by omega) (fun q => by omega) (fun q => rfl)
  · have e := (xe (a := a) (b := 8) (by omega) (by omega)).mp c8
    exact h _ (fun q => hx5 q) (fun q => by omega) (fun q => by omega)
  · have e := (xe (a := a) (b := 5) (by omega) (by omega)).mp c5
    have ho := okA_o hk (by omega)
    have e3 := hx (by omega)
    refine s_isRef hX hv (bi_br (fun c => ?_) (fun c => ?_))
    · obtain ⟨v2, q1, q2, q3⟩ := c
      have := n_inj (by omega) (by omega) (e3.symm.trans q2)
      subst this
      exact h _ (fun q => by omega) (fun q => e3) (fun q => absurd ⟨e, q3⟩ q.2)
    · exact h _ (fun q => by omega) (fun q => absurd ⟨o, ho, e3, q.2⟩ c) (fun q => rfl)
theorem s_lendsB (ha : RCa S X) {p : Nat} (hp : p < 150) {post : Int32 → CS → Prop} (hX : XI X) (h : post (nI (cnt (fun q => x_ac X q = 7 ∧ q ≠ p) 150)) S) : wp_X0_lendsBeside S (nI p) post := by
  have hk := hX.2.2.1 p hp
  have ha8 : x_ac X p ≤ 8 := okA_a (o := x_of X p) (w := x_pa X p) (t := x_to X p) hk
  have key : cnt (fun q => x_ac X q = 7 ∧ q ≠ p) 150 + (if x_ac X p = 7 then 1 else 0) = cnt (fun q => x_ac X q = 7) 150 := by
    have := cnt_upd (f := x_ac X) (p := p) (a := 0) (n := 150) (k := 7) hp
    rw [if_neg (show ¬ 0 = 7 by omega)] at this
    have e : cnt (fun q => x_ac X q = 7 ∧ q ≠ p) 150 = cnt (fun q => un_ (x_ac X) p 0 q = 7) 150 := cnt_congr (fun q hq => by
      by_cases hqp : q = p
      · subst hqp; rw [un_s]; exact ⟨fun e => absurd rfl e.2, fun e => by omega⟩
      · rw [un_n hqp]; exact ⟨fun e => e.1, fun e => ⟨e, hqp⟩⟩)
    omega
  unfold wp_X0_lendsBeside wp_X6_answer
  refine ⟨vp_in_nI (by omega) (by omega), ?_⟩
  rw [n_cl (by omega), (ha.1 p hp).1, ha.2]
  refine brn (fun c => brt rfl ?_) (fun c => brf (by decide) ?_)
  · have n7 : ¬ x_ac X p = 7 := fun e => c (by rw [e]; rfl)
    rw [if_neg n7] at key
    dsimp only
    rw [← key, show nI (cnt (fun q => x_ac X q = 7 ∧ q ≠ p) 150 + 0) - (0 : Int32) = nI (cnt (fun q => x_ac X q = 7 ∧ q ≠ p) 150 + 0) from pk_sub (b := 0) (by omega), Nat.add_zero]
    exact h
  · have e := (xe (a := x_ac X p) (b := 7) (by omega) (by omega)).mp c
    rw [if_pos e] at key
    dsimp only
    rw [← key, show nI (cnt (fun q => x_ac X q = 7 ∧ q ≠ p) 150 + 1) - (1 : Int32) = nI (cnt (fun q => x_ac X q = 7 ∧ q ≠ p) 150 + 1 - 1) from pk_sub (b := 1) (by omega), Nat.add_sub_cancel]
    exact h
end CPUT

def vAct (X : XT) (x1 x2 x3 x4 : Int32) (p a o w : Nat) : Prop := x1 = nI p ∧ p < 150 ∧ x2 = nI a ∧ a ≤ 6 ∧ okA X a o w 0 ∧ (a = 0 → o = 0 ∧ w = 0) ∧ (a ≠ 0 → x3 = nI o) ∧ (1 ≤ a ∧ a ≤ 4 → x4 = nI w)
def vLend (X : XT) (x1 x2 x3 x4 : Int32) (p t o w : Nat) : Prop := x1 = nI p ∧ p < 150 ∧ x2 = nI t ∧ x3 = nI o ∧ x4 = nI w ∧ okA X 7 o w t ∧ cnt (fun q => x_ac X q = 7 ∧ q ≠ p) 150 < 60
def vCopy (X : XT) (x1 x2 x3 : Int32) (p t o : Nat) : Prop := x1 = nI p ∧ p < 150 ∧ x2 = nI t ∧ x3 = nI o ∧ okA X 8 o 0 t
def vVar (X : XT) (x1 x2 : Int32) (s k : Nat) : Prop := x1 = nI s ∧ x2 = nI k ∧ s ≤ 2 ∧ 1 ≤ k ∧ k ≤ 4 ∧ (s ≠ 0 → k = 1) ∧ x_nv X < 16
def xvar (X : XT) (s k : Nat) : XT := (x_nv X + 1, un_ (x_so X) (x_nv X) s, un_ (x_lv X) (x_nv X) k, un_ (x_af X) (x_nv X) false, x_ac X, x_of X, x_pa X, x_to X, x_ed X, x_cn X)
def xbeg (X : XT) (v : Nat) (b : Bool) : XT := (x_nv X, x_so X, x_lv X, un_ (x_af X) v b, x_ac X, x_of X, x_pa X, x_to X, x_ed X, x_cn X)
def xnx (X : XT) (p q : Nat) (b : Bool) (c : Nat) : XT := (x_nv X, x_so X, x_lv X, x_af X, x_ac X, x_of X, x_pa X, x_to X, un_ (x_ed X) p (un_ (x_ed X p) q b), un_ (x_cn X) p c)
/-- the new count of points next to p -/
def ncn (X : XT) (p q : Nat) (b : Bool) : Nat := if b = true then (if x_ed X p q = true then x_cn X p else x_cn X p + 1) else (if x_ed X p q = true then x_cn X p - 1 else x_cn X p)
theorem vAct_u {X : XT} (hX : XI X) {x1 x2 x3 x4 : Int32} {p a o w p' a' o' w' : Nat} (h : vAct X x1 x2 x3 x4 p a o w) (h' : vAct X x1 x2 x3 x4 p' a' o' w') : p = p' ∧ a = a' ∧ o = o' ∧ w = w' := by
  obtain ⟨e1, l1, e2, l2, k1, z1, f1, g1⟩ := h
  obtain ⟨e1', l1', e2', l2', k1', z1', f1', g1'⟩ := h'
  have ep := n_inj (by omega) (by omega) (e1.symm.trans e1')
  have ea := n_inj (by omega) (by omega) (e2.symm.trans e2')
  subst ep; subst ea
  have hn := hX.1
  refine ⟨rfl, rfl, ?_⟩
  by_cases h0 : a = 0
  · have := z1 h0; have := z1' h0; omega
  · have o1 := okA_o k1 h0
    have o2 := okA_o k1' h0
    have eo := n_inj (by omega) (by omega) ((f1 h0).symm.trans (f1' h0))
    refine ⟨eo, ?_⟩
    by_cases h5 : 1 ≤ a ∧ a ≤ 4
    · have w1 := okA_w k1 h0
      have w2 := okA_w k1' h0
      exact n_inj (by omega) (by omega) ((g1 h5).symm.trans (g1' h5))
    · unfold okA at k1 k1'; omega
section CWR
variable {S : CS} {X : XT}
theorem cnt_set_le {X : XT} (hX : XI X) {p a o w t : Nat} (hp : p < 150) (ha : a ≠ 7) : cnt (fun q => x_ac (xset X p a o w t) q = 7) 150 ≤ 60 := by
  have e1 := cnt_upd (f := x_ac X) (p := p) (a := a) (n := 150) (k := 7) hp
  rw [if_neg ha] at e1
  have e3 : cnt (fun q => x_ac (xset X p a o w t) q = 7) 150 = cnt (fun q => un_ (x_ac X) p a q = 7) 150 := rfl
  have := hX.2.2.2.2.2
  omega
theorem cnt_set_7 {X : XT} {p o w t : Nat} (hp : p < 150) (h : cnt (fun q => x_ac X q = 7 ∧ q ≠ p) 150 < 60) : cnt (fun q => x_ac (xset X p 7 o w t) q = 7) 150 ≤ 60 := by
  have e1 := cnt_upd (f := x_ac X) (p := p) (a := 7) (n := 150) (k := 7) hp
  have e2 := cnt_upd (f := x_ac X) (p := p) (a := 0) (n := 150) (k := 7) hp
  rw [if_neg (show ¬ 0 = 7 by omega)] at e2
  rw [if_pos rfl] at e1
  have e : cnt (fun q => x_ac X q = 7 ∧ q ≠ p) 150 = cnt (fun q => un_ (x_ac X) p 0 q = 7) 150 := cnt_congr (fun q hq => by
    by_cases hqp : q = p
    · subst hqp; rw [un_s]; exact ⟨fun e => absurd rfl e.2, fun e => by omega⟩
    · rw [un_n hqp]; exact ⟨fun e => e.1, fun e => ⟨e, hqp⟩⟩)
  have e3 : cnt (fun q => x_ac (xset X p 7 o w t) q = 7) 150 = cnt (fun q => un_ (x_ac X) p 7 q = 7) 150 := rfl
  omega
theorem c_act (hX : XI X) (hR : RC S X) {x1 x2 x3 x4 : Int32} {post : Int32 → CS → Prop} (h1 : ∀ p a o w, vAct X x1 x2 x3 x4 p a o w → ∀ S', RC S' (xset X p a o w 0) → post 1 S') (h0 : (¬ ∃ p a o w, vAct X x1 x2 x3 x4 p a o w) → ∀ S', RC S' X → post (-1) S') : wp_X6_act S x1 x2 x3 x4 post := by
  have hb := hR.1
  have hv := hb.1
  have hn := hX.1
  unfold wp_X6_act
  refine s_isPoint (bi_br (fun c => ?_) (fun c => h0 ?_ S hR))
  · obtain ⟨p, hp, rfl⟩ := c
    refine br (fun c2 => h0 ?_ S hR) (fun c2 => br (fun c6 => ?_) (fun c6 => h0 ?_ S hR))
    · rintro ⟨p', a, o, w, q⟩
      have e := q.2.2.1
      rw [e] at c2
      exact absurd c2 (xn (by have := q.2.2.2.1; omega))
    · obtain ⟨a, ha, rfl⟩ := (inn_iff (x := x2) (n := 7) (by omega)).mpr ⟨c2, fun q => by
        have h3 : (7 : Int32) ≤ 6 := Int32.le_trans q c6
        exact absurd h3 (by decide)⟩
      have h44 : a = 5 ∨ a = 6 → wp_X6_act_44 post (nI p) (nI a) x3 S := fun ha5 => by
        unfold wp_X6_act_44
        refine s_has hX hv (bi_br (fun c => ?_) (fun c => h0 ?_ S hR))
        · obtain ⟨o, ho, rfl⟩ := c
          have hk : okA X a o 0 0 := Or.inr (Or.inl ⟨ha5, ho, rfl⟩)
          refine s_putC (t := 0) hX hb hp hk (cnt_set_le hX hp (by omega)) (fun _ => ⟨rfl, rfl⟩) (fun q => by omega) (fun S' hS' => h1 p a o 0 ⟨rfl, hp, rfl, by omega, hk, fun q => by omega, fun _ => rfl, fun q => by omega⟩ S' hS')
        · rintro ⟨p', a', o, w, q⟩
          have ea := n_inj (by omega) (by have := q.2.2.2.1; omega) q.2.2.1
          subst ea
          exact c ⟨o, okA_o q.2.2.2.2.1 (by omega), q.2.2.2.2.2.2.1 (by omega)⟩
      refine brn (fun ca => ?_) (fun ca => ?_)
      · have hz : a ≠ 0 := fun e => ca (by rw [e]; rfl)
        refine br (fun c5 => h44 (Or.inl ((xe (a := a) (b := 5) (by omega) (by omega)).mp c5))) (fun c5 => brn (fun c66 => ?_) (fun c66 => h44 (Or.inr ((xe (a := a) (b := 6) (by omega) (by omega)).mp c66))))
        have n5 : a ≠ 5 := fun e => c5 (by rw [e]; rfl)
        have n6 : a ≠ 6 := fun e => c66 (by rw [e]; rfl)
        refine s_mayAct hX hv (by omega) (bi_br (fun c => ?_) (fun c => h0 ?_ S hR))
        · obtain ⟨o, w, rfl, rfl, hk⟩ := c
          exact s_putC (t := 0) hX hb hp hk (cnt_set_le hX hp (by omega)) (fun _ => ⟨rfl, rfl⟩) (fun q => by omega) (fun S' hS' => h1 p a o w ⟨rfl, hp, rfl, by omega, hk, fun q => absurd q hz, fun _ => rfl, fun _ => rfl⟩ S' hS')
        · rintro ⟨p', a', o, w, q⟩
          have ea := n_inj (by omega) (by have := q.2.2.2.1; omega) q.2.2.1
          subst ea
          exact c ⟨o, w, q.2.2.2.2.2.2.1 hz, q.2.2.2.2.2.2.2 (by omega), q.2.2.2.2.1⟩
      · have hz := (xe (a := a) (b := 0) (by omega) (by omega)).mp ca
        subst hz
        have hk : okA X 0 0 0 0 := Or.inl rfl
        exact s_putC (a := 0) (o := 0) (w := 0) (t := 0) hX hb hp hk (cnt_set_le hX hp (by omega)) (fun q => absurd rfl q) (fun q => by omega) (fun S' hS' => h1 p 0 0 0 ⟨rfl, hp, rfl, by omega, hk, fun _ => ⟨rfl, rfl⟩, fun q => absurd rfl q, fun q => by omega⟩ S' hS')
    · rintro ⟨p', a, o, w, q⟩
      have e := q.2.2.1
      rw [e] at c6
      exact c6 ((xc (a := a) (b := 6) (by have := q.2.2.2.1; omega) (by omega)).mpr q.2.2.2.1)
  · rintro ⟨p', a, o, w, q⟩
    exact c ⟨p', q.2.1, q.1⟩
theorem c_lend (hX : XI X) (hR : RC S X) {x1 x2 x3 x4 : Int32} {post : Int32 → CS → Prop} (h1 : ∀ p t o w, vLend X x1 x2 x3 x4 p t o w → ∀ S', RC S' (xset X p 7 o w t) → post 1 S') (h0 : (¬ ∃ p t o w, vLend X x1 x2 x3 x4 p t o w) → ∀ S', RC S' X → post (-1) S') : wp_X6_lend S x1 x2 x3 x4 post := by
  have hb := hR.1
  have hv := hb.1
  have hn := hX.1
  unfold wp_X6_lend
  refine s_isPoint (bi_br (fun c => ?_) (fun c => h0 ?_ S hR))
  · obtain ⟨p, hp, rfl⟩ := c
    refine s_mayLend hX hv (bi_br (fun c => ?_) (fun c => h0 ?_ S hR))
    · obtain ⟨t, o, w, rfl, rfl, rfl, hk⟩ := c
      have hle := cnt_le (fun q => x_ac X q = 7 ∧ q ≠ p) 150
      refine s_lendsB hb.2.1 hp hX (br (fun c => ?_) (fun c => h0 ?_ S hR))
      · have hc := (xl (b := 60) (by omega) (by omega)).mp c
        exact s_putC (a := 7) hX hb hp hk (cnt_set_7 hp hc) (fun _ => ⟨rfl, rfl⟩) (fun _ => rfl) (fun S' hS' => h1 p t o w ⟨rfl, hp, rfl, rfl, rfl, hk, hc⟩ S' hS')
      · rintro ⟨p', t', o', w', q⟩
        have ep := n_inj (by omega) (by have := q.2.1; omega) q.1
        subst ep
        exact c ((xl (b := 60) (by omega) (by omega)).mpr q.2.2.2.2.2.2)
    · rintro ⟨p', t', o', w', q⟩
      exact c ⟨t', o', w', q.2.2.1, q.2.2.2.1, q.2.2.2.2.1, q.2.2.2.2.2.1⟩
  · rintro ⟨p', t', o', w', q⟩
    exact c ⟨p', q.2.1, q.1⟩
theorem c_copy (hX : XI X) (hR : RC S X) {x1 x2 x3 : Int32} {post : Int32 → CS → Prop} (h1 : ∀ p t o, vCopy X x1 x2 x3 p t o → ∀ S', RC S' (xset X p 8 o 0 t) → post 1 S') (h0 : (¬ ∃ p t o, vCopy X x1 x2 x3 p t o) → ∀ S', RC S' X → post (-1) S') : wp_X6_copy S x1 x2 x3 post := by
  have hb := hR.1
  have hv := hb.1
  unfold wp_X6_copy
  refine s_isPoint (bi_br (fun c => ?_) (fun c => h0 ?_ S hR))
  · obtain ⟨p, hp, rfl⟩ := c
    refine s_mayCopy hX hv (bi_brn (fun c => ?_) (fun c => h0 ?_ S hR))
    · obtain ⟨t, o, rfl, rfl, hk⟩ := c
      exact s_putC (a := 8) (w := 0) hX hb hp hk (cnt_set_le hX hp (by omega)) (fun _ => ⟨rfl, rfl⟩) (fun _ => rfl) (fun S' hS' => h1 p t o ⟨rfl, hp, rfl, rfl, hk⟩ S' hS')
    · rintro ⟨p', t', o', q⟩
      exact c ⟨t', o', q.2.2.1, q.2.2.2.1, q.2.2.2.2⟩
  · rintro ⟨p', t', o', q⟩
    exact c ⟨p', q.2.1, q.1⟩
theorem xv_so {X : XT} {s k v : Nat} (h : v < x_nv X) : x_so (xvar X s k) v = x_so X v := un_n (by omega)
theorem xv_lv {X : XT} {s k v : Nat} (h : v < x_nv X) : x_lv (xvar X s k) v = x_lv X v := un_n (by omega)
theorem xv_af {X : XT} {s k v : Nat} (h : v < x_nv X) : x_af (xvar X s k) v = x_af X v := un_n (by omega)
theorem xv_isPl {X : XT} {s k v w : Nat} (h : isPl X v w) : isPl (xvar X s k) v w := by
  have hv := h.1
  refine ⟨Nat.lt_succ_of_lt hv, h.2.1, ?_, ?_⟩
  · rw [xv_so hv]; exact h.2.2.1
  · rw [xv_so hv, xv_lv hv]; exact h.2.2.2
theorem xv_wi {X : XT} {s k v w : Nat} (h : v < x_nv X) : wi (xvar X s k) v w ↔ wi X v w := by unfold wi; rw [xv_lv h]
theorem xv_ok {X : XT} {s k a o w t : Nat} (h : okA X a o w t) : okA (xvar X s k) a o w t := by
  rcases h with q | q | q | q | q | q
  · exact Or.inl q
  · exact Or.inr (Or.inl ⟨q.1, Nat.lt_succ_of_lt q.2.1, q.2.2⟩)
  · have ho := q.2.1.1
    refine Or.inr (Or.inr (Or.inl ⟨q.1, xv_isPl q.2.1, ?_⟩))
    rw [xv_so ho]; exact q.2.2
  · have ho := q.2.1.1
    refine Or.inr (Or.inr (Or.inr (Or.inl ⟨q.1, xv_isPl q.2.1, ?_⟩)))
    rw [xv_so ho, xv_wi ho]; exact q.2.2
  · have ho := q.2.1.1
    refine Or.inr (Or.inr (Or.inr (Or.inr (Or.inl ⟨q.1, xv_isPl q.2.1, Nat.lt_succ_of_lt q.2.2.1, ?_⟩))))
    rw [xv_so ho, xv_so q.2.2.1]; exact q.2.2.2
  · refine Or.inr (Or.inr (Or.inr (Or.inr (Or.inr ⟨q.1, Nat.lt_succ_of_lt q.2.1, Nat.lt_succ_of_lt q.2.2.1, ?_⟩))))
    rw [xv_so q.2.1, xv_so q.2.2.1]; exact q.2.2.2
theorem xv_XI {X : XT} (hX : XI X) {s k : Nat} {x1 x2 : Int32} (h : vVar X x1 x2 s k) : XI (xvar X s k) := by
  refine ⟨?_, fun v hv => ?_, fun p hp => xv_ok (hX.2.2.1 p hp), hX.2.2.2.1, hX.2.2.2.2.1, hX.2.2.2.2.2⟩
  · have := h.2.2.2.2.2.2; show x_nv X + 1 ≤ 16; omega
  · by_cases he : v = x_nv X
    · subst he
      rw [show x_so (xvar X s k) (x_nv X) = s from un_s, show x_lv (xvar X s k) (x_nv X) = k from un_s]
      exact ⟨h.2.2.1, h.2.2.2.1, h.2.2.2.2.1, h.2.2.2.2.2.1⟩
    · have hv2 : v < x_nv X := by have : v < x_nv X + 1 := hv; omega
      rw [xv_so hv2, xv_lv hv2]
      exact hX.2.1 v hv2
end CWR

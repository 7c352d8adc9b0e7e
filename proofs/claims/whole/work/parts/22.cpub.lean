/-! what the calls that change the tables answer, and the new X -/
section CPB
variable {S : CS} {X : XT}
/-- no cache is taken as known -/
def fgt (S : CS) : Prop := gC_wK S = 0 ∧ gC_eK S = 0 ∧ gC_lK S = 0
theorem RC_of (h : RCb S X) (hf : fgt S) : RC S X := ⟨h, fun q => absurd hf.1 q, fun q => absurd hf.2.1 q, fun q => absurd hf.2.2 q⟩
theorem s_forget {post : CS → Prop} (h : ∀ S', fgt S' → (∀ X, RCb S X → RCb S' X) → post S') : wp_X6_forget S post := by
  unfold wp_X6_forget
  intro S1 e1 S2 e2 S3 e3
  subst e1; subst e2; subst e3
  exact h _ ⟨rfl, rfl, rfl⟩ (fun X hX => hX)
theorem s_answer {k : Int32} (hk : isb k) {post : Int32 → CS → Prop} (h : post k S) : wp_X6_answer S k post := by
  unfold wp_X6_answer
  rcases hk with rfl | rfl
  · exact brt rfl h
  · exact brf (by decide) h
theorem s_put (hX : XI X) (hb : RCb S X) {p a o w t : Nat} (hp : p < 150) (hk : okA X a o w t) (hc : cnt (fun q => x_ac (xset X p a o w t) q = 7) 150 ≤ 60) {x3 x4 x5 : Int32} (hx : a ≠ 0 → x3 = nI o ∧ x4 = nI w) (hx5 : a = 7 ∨ a = 8 → x5 = nI t) {post : CS → Prop} (h : ∀ S', RCb S' (xset X p a o w t) → post S') : wp_X0_put S (nI p) (nI a) x3 x4 x5 post := by
  obtain ⟨hv, ha, hd, hn⟩ := hb
  have ha8 := okA_a hk
  have hvp : vp_in (nI p) 150 := vp_in_nI (by omega) (by omega)
  have hcnt : cnt (fun q => x_ac (xset X p a o w t) q = 7) 150 = cnt (fun q => x_ac X q = 7 ∧ q ≠ p) 150 + (if a = 7 then 1 else 0) := by
    have e1 := cnt_upd (f := x_ac X) (p := p) (a := a) (n := 150) (k := 7) hp
    have e2 := cnt_upd (f := x_ac X) (p := p) (a := 0) (n := 150) (k := 7) hp
    rw [if_neg (show ¬ 0 = 7 by omega)] at e2
    have e : cnt (fun q => x_ac X q = 7 ∧ q ≠ p) 150 = cnt (fun q => un_ (x_ac X) p 0 q = 7) 150 := cnt_congr (fun q hq => by
      by_cases hqp : q = p
      · subst hqp; rw [un_s]; exact ⟨fun e => absurd rfl e.2, fun e => by omega⟩
      · rw [un_n hqp]; exact ⟨fun e => e.1, fun e => ⟨e, hqp⟩⟩)
    have e3 : cnt (fun q => x_ac (xset X p a o w t) q = 7) 150 = cnt (fun q => un_ (x_ac X) p a q = 7) 150 := rfl
    omega
  unfold wp_X0_put
  refine s_lendsB ha hp hX ?_
  have h17 : ∀ k0 : Int32, (k0 = if a = 7 then 1 else 0) → wp_X0_put_17 post (nI p) (nI a) x3 x4 x5 k0 (nI (cnt (fun q => x_ac X q = 7 ∧ q ≠ p) 150)) S := by
    intro k0 hk0
    unfold wp_X0_put_17
    refine s_answer (by rw [hk0]; split; exact Or.inr rfl; exact Or.inl rfl) ?_
    intro S1 e1
    refine ⟨hvp, fun S2 e2 => ⟨hvp, fun S3 e3 => ⟨hvp, fun S4 e4 => ⟨hvp, fun S5 e5 => ?_⟩⟩⟩⟩
    rw [n_cl (by omega)] at e2 e3 e4 e5
    have hv5 : RCv S5 X := by subst e1; subst e2; subst e3; subst e4; subst e5; exact hv
    refine s_wanted hX hv5 hk hx (fun r64 hr64 => ⟨hvp, fun S6 e6 => ?_⟩)
    have hv6 : RCv S6 X := by subst e6; exact hv5
    refine s_given hX hv6 hk hx hx5 (fun r80 hr80 ho80 => ⟨hvp, fun S7 e7 => ?_⟩)
    have hv7 : RCv S7 X := by subst e7; exact hv6
    refine s_taken hX hv7 hk hx (fun r94 hr94 ho94 => ⟨hvp, fun S8 e8 => ?_⟩)
    have hv8 : RCv S8 X := by subst e8; exact hv7
    refine s_refUsed hX hv8 hk hx (fun r108 hu1 hu2 => ⟨hvp, fun S9 e9 => ?_⟩)
    have hv9 : RCv S9 X := by subst e9; exact hv8
    refine s_refRen hX hv9 hk (fun q => (hx q).1) hx5 (fun r122 hn1 hn2 hn3 => ⟨hvp, fun S10 e10 => h S10 ?_⟩)
    rw [n_cl (by omega)] at e6 e7 e8 e9 e10
    have hn10 : RCn S10 X := by subst e1; subst e2; subst e3; subst e4; subst e5; subst e6; subst e7; subst e8; subst e9; subst e10; exact hn
    have hv10 : RCv S10 X := by subst e10; exact hv9
    have gk : gC_kinds S10 = upd (gC_kinds S) p (nI a) := by subst e1; subst e2; subst e3; subst e4; subst e5; subst e6; subst e7; subst e8; subst e9; subst e10; rfl
    have gp : gC_places S10 = upd (gC_places S) p x3 := by subst e1; subst e2; subst e3; subst e4; subst e5; subst e6; subst e7; subst e8; subst e9; subst e10; rfl
    have ga : gC_paths S10 = upd (gC_paths S) p x4 := by subst e1; subst e2; subst e3; subst e4; subst e5; subst e6; subst e7; subst e8; subst e9; subst e10; rfl
    have gr : gC_recvs S10 = upd (gC_recvs S) p x5 := by subst e1; subst e2; subst e3; subst e4; subst e5; subst e6; subst e7; subst e8; subst e9; subst e10; rfl
    have gl : gC_lends S10 = nI (cnt (fun q => x_ac X q = 7 ∧ q ≠ p) 150) + k0 := by subst e1; subst e2; subst e3; subst e4; subst e5; subst e6; subst e7; subst e8; subst e9; subst e10; rfl
    have gw : gC_wanted S10 = vp_updL (gC_wanted S) p r64 := by subst e1; subst e2; subst e3; subst e4; subst e5; subst e6; subst e7; subst e8; subst e9; subst e10; rfl
    have gg : gC_given S10 = vp_updL (gC_given S) p r80 := by subst e1; subst e2; subst e3; subst e4; subst e5; subst e6; subst e7; subst e8; subst e9; subst e10; rfl
    have gt_ : gC_taken S10 = vp_updL (gC_taken S) p r94 := by subst e1; subst e2; subst e3; subst e4; subst e5; subst e6; subst e7; subst e8; subst e9; subst e10; rfl
    have gu : gC_usedR S10 = upd (gC_usedR S) p r108 := by subst e1; subst e2; subst e3; subst e4; subst e5; subst e6; subst e7; subst e8; subst e9; subst e10; rfl
    have gn : gC_renR S10 = upd (gC_renR S) p r122 := by subst e1; subst e2; subst e3; subst e4; subst e5; subst e6; subst e7; subst e8; subst e9; subst e10; rfl
    refine ⟨hv10, ⟨fun q hq => ?_, ?_⟩, fun q hq => ?_, hn10⟩
    · rw [gk, gp, ga, gr]
      by_cases hqp : q = p
      · subst hqp
        rw [xs_ac, xs_of, xs_pa, xs_to, u_s, u_s, u_s, u_s]
        exact ⟨rfl, hx, hx5⟩
      · rw [xn_ac hqp, xn_of hqp, xn_pa hqp, xn_to hqp, u_n hqp, u_n hqp, u_n hqp, u_n hqp]
        exact ha.1 q hq
    · rw [gl, hcnt, hk0]
      by_cases h7 : a = 7
      · rw [if_pos h7, if_pos h7]; exact nI_1 _
      · rw [if_neg h7, if_neg h7]; exact nI_add _ 0
    · rw [gw, gg, gt_, gu, gn]
      by_cases hqp : q = p
      · subst hqp
        unfold us gv tk wn lf
        rw [xs_ac, xs_of, xs_pa, xs_to, ul_s, ul_s, ul_s, u_s, u_s]
        exact ⟨hr64, fun v f h1 h2 => ⟨hr80 v f h1 h2, hr94 v f h1 h2⟩, fun i hi => ⟨ho80 i hi, ho94 i hi⟩, hu1, hu2, hn1, hn2, hn3⟩
      · have := hd q hq
        unfold us gv tk wn lf at this ⊢
        rw [xn_ac hqp, xn_of hqp, xn_pa hqp, xn_to hqp, ul_n hqp, ul_n hqp, ul_n hqp, u_n hqp, u_n hqp]
        exact this
  refine brn (fun c => h17 0 ?_) (fun c => h17 1 ?_)
  · rw [if_neg (fun e => c (by rw [e]; rfl))]
  · rw [if_pos ((xe (a := a) (b := 7) (by omega) (by omega)).mp c)]
theorem s_putC (hX : XI X) (hb : RCb S X) {p a o w t : Nat} (hp : p < 150) (hk : okA X a o w t) (hc : cnt (fun q => x_ac (xset X p a o w t) q = 7) 150 ≤ 60) {x3 x4 x5 : Int32} (hx : a ≠ 0 → x3 = nI o ∧ x4 = nI w) (hx5 : a = 7 ∨ a = 8 → x5 = nI t) {post : Int32 → CS → Prop} (h : ∀ S', RC S' (xset X p a o w t) → post 1 S') : wp_X6_put S (nI p) (nI a) x3 x4 x5 post := by
  unfold wp_X6_put
  refine s_put hX hb hp hk hc hx hx5 (fun S1 h1 => s_forget (fun S2 hf h2 => h S2 (RC_of (h2 _ h1) hf)))
theorem s_mayAct (hX : XI X) (hv : RCv S X) {a : Nat} (ha : 1 ≤ a ∧ a ≤ 4) {x y : Int32} {post : Int32 → CS → Prop} (h : post (bi (∃ o w, x = nI o ∧ y = nI w ∧ okA X a o w 0)) S) : wp_X4_mayAct S (nI a) x y post := by
  have hn := hX.1
  unfold wp_X4_mayAct
  refine s_isPlace hX hv (bi_brn (fun c => ?_) (fun c => lf0 h ?_))
  · obtain ⟨o, w, rfl, rfl, hp⟩ := c
    have ho := hp.1
    have hw := hp.2.1.1
    have h4 := hX.2.1 o ho
    have hP : bi (∃ o2 w2, nI o = nI o2 ∧ nI w = nI w2 ∧ okA X a o2 w2 0) = bi (okA X a o w 0) := by
      apply bi_e
      constructor
      · rintro ⟨o2, w2, h1, h2, h3⟩
        have e1 := n_inj (by omega) (by have := okA_o h3 (by omega); omega) h1
        have e2 := n_inj (by omega) (by have := okA_w h3 (by omega); omega) h2
        subst e1; subst e2; exact h3
      · intro q; exact ⟨o, w, rfl, rfl, q⟩
    rw [hP] at h
    clear hP
    refine brn (fun c2 => ?_) (fun c2 => ?_)
    · have n2 : a ≠ 2 := fun e => c2 (by rw [e]; rfl)
      refine s_isRef hX hv (bi_brn (fun c3 => ?_) (fun c3 => ?_))
      · obtain ⟨v2, q1, q2, q3⟩ := c3
        have := n_inj (by omega) (by omega) q2
        subst this
        refine br (fun c4 => lf0 h ?_) (fun c4 => br (fun c5 => lf1 h ?_) (fun c5 => ?_))
        · have := (xe (a := w) (b := 0) (by omega) (by omega)).mp c4
          unfold okA; omega
        · have e1 := (xe (a := a) (b := 1) (by omega) (by omega)).mp c5
          have : w ≠ 0 := fun e => c4 (by rw [e]; rfl)
          exact Or.inr (Or.inr (Or.inl ⟨Or.inl e1, hp, fun _ => this, fun q => absurd e1 q⟩))
        · have n1 : a ≠ 1 := fun e => c5 (by rw [e]; rfl)
          have hw0 : w ≠ 0 := fun e => c4 (by rw [e]; rfl)
          refine s_isSo hX hv (bi_br (fun c6 => lf1 h ?_) (fun c6 => lf0 h ?_))
          · obtain ⟨v3, q4, q5, q6⟩ := c6
            have := n_inj (by omega) (by omega) q5
            subst this
            exact Or.inr (Or.inr (Or.inl ⟨by omega, hp, fun _ => hw0, fun _ => by omega⟩))
          · have : x_so X o ≠ 2 := fun q => c6 ⟨o, ho, rfl, q⟩
            unfold okA; omega
      · have h0 : x_so X o = 0 := Classical.byContradiction (fun q => c3 ⟨o, ho, rfl, q⟩)
        exact lf1 h (Or.inr (Or.inr (Or.inl ⟨by omega, hp, fun q => absurd h0 q, fun _ => by omega⟩)))
    · have e2 := (xe (a := a) (b := 2) (by omega) (by omega)).mp c2
      refine s_isRef hX hv (bi_brn (fun c3 => lf0 h ?_) (fun c3 => ?_))
      · obtain ⟨v2, q1, q2, q3⟩ := c3
        have := n_inj (by omega) (by omega) q2
        subst this
        unfold okA; omega
      · have h0 : x_so X o = 0 := Classical.byContradiction (fun q => c3 ⟨o, ho, rfl, q⟩)
        refine s_isWithin hX hv ho hw (bi_brn (fun c4 => lf0 h ?_) (fun c4 => lf1 h ?_))
        · intro q
          rcases q with q | q | q | q | q | q
          · omega
          · omega
          · omega
          · exact q.2.2.2 c4
          · omega
          · omega
        · exact Or.inr (Or.inr (Or.inr (Or.inl ⟨e2, hp, h0, c4⟩)))
  · rintro ⟨o, w, h1, h2, h3⟩
    refine c ⟨o, w, h1, h2, ?_⟩
    rcases h3 with q | q | q | q | q | q
    · omega
    · omega
    · exact q.2.1
    · exact q.2.1
    · exact q.2.1
    · omega
theorem s_mayLend (hX : XI X) (hv : RCv S X) {x y z : Int32} {post : Int32 → CS → Prop} (h : post (bi (∃ t o w, x = nI t ∧ y = nI o ∧ z = nI w ∧ okA X 7 o w t)) S) : wp_X4_mayLend S x y z post := by
  have hn := hX.1
  unfold wp_X4_mayLend
  have h7 : ∀ {t o w : Nat}, okA X 7 o w t → isPl X o w ∧ t < x_nv X ∧ x_so X t ≠ 0 ∧ (x_so X o ≠ 0 → w ≠ 0) ∧ (x_so X t = 2 → x_so X o ≠ 1) := fun q => by
    rcases q with q | q | q | q | q | q
    · omega
    · omega
    · omega
    · omega
    · exact q.2
    · omega
  refine s_isRef hX hv (bi_br (fun c => ?_) (fun c => lf0 h ?_))
  · obtain ⟨t, ht, rfl, hst⟩ := c
    refine s_isPlace hX hv (bi_brn (fun c => ?_) (fun c => lf0 h ?_))
    · obtain ⟨o, w, rfl, rfl, hp⟩ := c
      have ho := hp.1
      have hw := hp.2.1.1
      have h4 := hX.2.1 o ho
      have h5 := hX.2.1 t ht
      have hP : bi (∃ t2 o2 w2, nI t = nI t2 ∧ nI o = nI o2 ∧ nI w = nI w2 ∧ okA X 7 o2 w2 t2) = bi ((x_so X o ≠ 0 → w ≠ 0) ∧ (x_so X t = 2 → x_so X o ≠ 1)) := by
        apply bi_e
        constructor
        · rintro ⟨t2, o2, w2, h1, h2, h3, h4⟩
          have h5 := h7 h4
          have e1 := n_inj (by omega) (by omega) h1
          have e2 := n_inj (by omega) (by have := h5.1.1; omega) h2
          have e3 := n_inj (by omega) (by have := h5.1.2.1.1; omega) h3
          subst e1; subst e2; subst e3; exact h5.2.2.2
        · intro q; exact ⟨t, o, w, rfl, rfl, rfl, Or.inr (Or.inr (Or.inr (Or.inr (Or.inl ⟨rfl, hp, ht, hst, q⟩))))⟩
      rw [hP] at h
      clear hP
      refine s_isRef hX hv (bi_brn (fun c3 => ?_) (fun c3 => lf1 h ?_))
      · obtain ⟨v2, q1, q2, q3⟩ := c3
        have := n_inj (by omega) (by omega) q2
        subst this
        refine br (fun c4 => lf0 h ?_) (fun c4 => ?_)
        · have := (xe (a := w) (b := 0) (by omega) (by omega)).mp c4
          omega
        · have hw0 : w ≠ 0 := fun e => c4 (by rw [e]; rfl)
          refine s_isSh hX hv (bi_brn (fun c5 => lf1 h ?_) (fun c5 => ?_))
          · obtain ⟨v3, q4, q5, q6⟩ := c5
            have := n_inj (by omega) (by omega) q5
            subst this
            exact ⟨fun _ => hw0, fun _ => by omega⟩
          · have e2 : x_so X t ≠ 1 := fun q => c5 ⟨t, ht, rfl, q⟩
            refine s_isSo hX hv (bi_br (fun c6 => lf1 h ?_) (fun c6 => lf0 h ?_))
            · obtain ⟨v3, q4, q5, q6⟩ := c6
              have := n_inj (by omega) (by omega) q5
              subst this
              exact ⟨fun _ => hw0, fun _ => by omega⟩
            · have : x_so X o ≠ 2 := fun q => c6 ⟨o, ho, rfl, q⟩
              omega
      · have h0 : x_so X o = 0 := Classical.byContradiction (fun q => c3 ⟨o, ho, rfl, q⟩)
        exact ⟨fun q => absurd h0 q, fun _ => by omega⟩
    · rintro ⟨t2, o2, w2, h1, h2, h3, h4⟩
      exact c ⟨o2, w2, h2, h3, (h7 h4).1⟩
  · rintro ⟨t2, o2, w2, h1, h2, h3, h4⟩
    have := h7 h4
    exact c ⟨t2, this.2.1, h1, this.2.2.1⟩
theorem s_mayCopy (hX : XI X) (hv : RCv S X) {x y : Int32} {post : Int32 → CS → Prop} (h : post (bi (∃ t o, x = nI t ∧ y = nI o ∧ okA X 8 o 0 t)) S) : wp_X4_mayCopy S x y post := by
  have hn := hX.1
  have h8 : ∀ {t o : Nat}, okA X 8 o 0 t → o < x_nv X ∧ t < x_nv X ∧ x_so X o ≠ 0 ∧ x_so X t = x_so X o ∧ t ≠ o := fun q => by unfold okA at q; omega
  unfold wp_X4_mayCopy
  refine br (fun c => lf0 h ?_) (fun c => ?_)
  · rintro ⟨t, o, rfl, rfl, q⟩
    have := h8 q
    exact this.2.2.2.2 (n_inj (by omega) (by omega) c)
  · refine s_isRef hX hv (bi_br (fun c1 => ?_) (fun c1 => lf0 h ?_))
    · obtain ⟨t, ht, rfl, hst⟩ := c1
      refine s_isRef hX hv (bi_br (fun c2 => ?_) (fun c2 => lf0 h ?_))
      · obtain ⟨o, ho, rfl, hso⟩ := c2
        have h4 := hX.2.1 o ho
        have h5 := hX.2.1 t ht
        refine ⟨vp_in_nI (by omega) (by omega), vp_in_nI (by omega) (by omega), ?_⟩
        rw [n_cl (by omega), n_cl (by omega), (hv.2.1 t ht).1, (hv.2.1 o ho).1]
        have hto : t ≠ o := fun e => c (by rw [e])
        refine brn (fun c3 => lf0 h ?_) (fun c3 => lf1 h ?_)
        · rintro ⟨t2, o2, h1, h2, q⟩
          have := h8 q
          have e1 := n_inj (by omega) (by omega) h1
          have e2 := n_inj (by omega) (by omega) h2
          subst e1; subst e2
          exact c3 (by rw [this.2.2.2.1])
        · have := (xe (by omega) (by omega)).mp c3
          exact ⟨t, o, rfl, rfl, Or.inr (Or.inr (Or.inr (Or.inr (Or.inr ⟨rfl, ho, ht, hso, this, hto, rfl⟩))))⟩
      · rintro ⟨t2, o2, h1, h2, q⟩
        exact c2 ⟨o2, (h8 q).1, h2, (h8 q).2.2.1⟩
    · rintro ⟨t2, o2, h1, h2, q⟩
      have := h8 q
      exact c1 ⟨t2, this.2.1, h1, by omega⟩
end CPB

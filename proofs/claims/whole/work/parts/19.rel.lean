/-! the tables of LoanWays and of its model, against one X -/
def RCv (S : CS) (X : XT) : Prop := gC_vmade S = nI (x_nv X) ∧ (∀ v, v < x_nv X → gC_sorts S v = nI (x_so X v) ∧ gC_lcs S v = nI (x_lv X v)) ∧ (∀ v f, v < x_nv X → f < x_lv X v → lb (gC_begun S) (4 * v + f) = x_af X v) ∧ (∀ i, 4 * x_nv X ≤ i → lb (gC_begun S) i = false)
def RCa (S : CS) (X : XT) : Prop := (∀ p, p < 150 → gC_kinds S p = nI (x_ac X p) ∧ (x_ac X p ≠ 0 → gC_places S p = nI (x_of X p) ∧ gC_paths S p = nI (x_pa X p)) ∧ (x_ac X p = 7 ∨ x_ac X p = 8 → gC_recvs S p = nI (x_to X p))) ∧ gC_lends S = nI (cnt (fun p => x_ac X p = 7) 150)
def RCd (S : CS) (X : XT) : Prop := ∀ p, p < 150 →
  (∀ i, i < 64 → (lb (gC_wanted S p) i = true ↔ ∃ f, i = 4 * x_of X p + f ∧ f < x_lv X (x_of X p) ∧ x_ac X p ≠ 0 ∧ wn X p f)) ∧
  (∀ v f, v < x_nv X → f < x_lv X v → (lb (gC_given S p) (4 * v + f) = true ↔ gv X p v f) ∧ (lb (gC_taken S p) (4 * v + f) = true ↔ tk X p v f)) ∧ (∀ i, 4 * x_nv X ≤ i → lb (gC_given S p) i = false ∧ lb (gC_taken S p) i = false) ∧
  (us X p (x_of X p) → gC_usedR S p = nI (x_of X p)) ∧ (¬ us X p (x_of X p) → gC_usedR S p = -1) ∧
  (x_ac X p = 7 ∨ x_ac X p = 8 → gC_renR S p = nI (x_to X p)) ∧ (x_ac X p = 5 ∧ x_so X (x_of X p) ≠ 0 → gC_renR S p = nI (x_of X p)) ∧ (¬ (x_ac X p = 7 ∨ x_ac X p = 8) ∧ ¬ (x_ac X p = 5 ∧ x_so X (x_of X p) ≠ 0) → gC_renR S p = -1)
def RCn (S : CS) (X : XT) : Prop := ∀ p, p < 150 → gC_ncnt S p = nI (x_cn X p) ∧ (∀ i, i < x_cn X p → ∃ q, q < 150 ∧ gC_nexts S (4 * p + i) = nI q ∧ x_ed X p q = true) ∧ (∀ q, x_ed X p q = true → ∃ i, i < x_cn X p ∧ gC_nexts S (4 * p + i) = nI q) ∧ (∀ i j, i < x_cn X p → j < x_cn X p → gC_nexts S (4 * p + i) = gC_nexts S (4 * p + j) → i = j)
def VW (S : CS) (X : XT) : Prop := (∃ n, n ≤ 150 ∧ gC_reached S = nI n ∧ n = cnt (rch X) 150 ∧ (∀ i, i < n → ∃ p, p < 150 ∧ gC_order S i = nI p ∧ rch X p) ∧ (∀ p, rch X p → ∃ i, i < n ∧ gC_order S i = nI p)) ∧ ∀ p, p < 150 → (gC_tried S p = -1 ↔ ¬ rch X p)
def VE (S : CS) (X : XT) : Prop := ∀ q, q < 150 → rch X q → ∀ v f, v < x_nv X → f < x_lv X v → (lb (gC_onAll S q) (4 * v + f) = true ↔ ¬ lst X v f q) ∧ (lb (gC_onSome S q) (4 * v + f) = true ↔ hd X v f q)
/-- the loans: their numbers, who lent, whose they are -/
def VLn (S : CS) (X : XT) : Prop := gC_lmade S = nI (cnt (ml X) 150) ∧ (∀ p, p < 150 → ml X p → gC_bits S p = (1 : Int64) <<< ((nI (cnt (ml X) p)).toInt64 &&& 63) ∧ gC_makers S (cnt (ml X) p) = nI p) ∧ (∀ p, p < 150 → ¬ ml X p → gC_bits S p = 0) ∧ (∀ v i, v < x_nv X → i < 64 → (lb (gC_loansOf S v) i = true ↔ ∃ p, p < 150 ∧ ml X p ∧ i = cnt (ml X) p ∧ x_of X p = v)) ∧ (∀ i, i < 64 → (lb (gC_soleL S) i = true ↔ ∃ p, p < 150 ∧ ml X p ∧ i = cnt (ml X) p ∧ x_so X (x_to X p) = 2))
def VLh (S : CS) (X : XT) : Prop := ∀ p v i, p < 150 → v < x_nv X → i < 64 → (lb (gC_holdings S (16 * p + v)) i = true ↔ ∃ l, l < 150 ∧ ml X l ∧ i = cnt (ml X) l ∧ hld X l p v)
def VLu (S : CS) (X : XT) : Prop := ∀ p, p < 150 → ∀ r, r < 32 → (ib (gC_usedL S p) r = true ↔ r < x_nv X ∧ x_so X r ≠ 0 ∧ usd X r p)
def VL (S : CS) (X : XT) : Prop := VLn S X ∧ VLh S X ∧ VLu S X
def RCb (S : CS) (X : XT) : Prop := RCv S X ∧ RCa S X ∧ RCd S X ∧ RCn S X
def RC (S : CS) (X : XT) : Prop := RCb S X ∧ (¬ gC_wK S = 0 → VW S X) ∧ (¬ gC_eK S = 0 → ¬ gC_wK S = 0 ∧ VE S X) ∧ (¬ gC_lK S = 0 → ¬ gC_wK S = 0 ∧ VL S X)
/-! the model -/
def RMv (M : MS) (X : XT) : Prop := gM_nv M = nI (x_nv X) ∧ ∀ v, v < x_nv X → gM_sort M v = nI (x_so X v) ∧ gM_lvs M v = nI (x_lv X v) ∧ gM_atF M v = bi (x_af X v = true)
def RMa (M : MS) (X : XT) : Prop := ∀ p, p < 150 → gM_acts M p = nI (x_ac X p) ∧ (x_ac X p ≠ 0 → gM_of M p = nI (x_of X p) ∧ gM_path M p = nI (x_pa X p)) ∧ (x_ac X p = 7 ∨ x_ac X p = 8 → gM_to M p = nI (x_to X p))
def RMn (M : MS) (X : XT) : Prop := ∀ p, p < 150 → (∀ k, k < 4 → gM_nexts M (4 * p + k) = -1 ∨ ∃ q, q < 150 ∧ gM_nexts M (4 * p + k) = nI q ∧ x_ed X p q = true) ∧ (∀ q, x_ed X p q = true → ∃ k, k < 4 ∧ gM_nexts M (4 * p + k) = nI q) ∧ (∀ i j, i < 4 → j < 4 → gM_nexts M (4 * p + i) ≠ -1 → gM_nexts M (4 * p + i) = gM_nexts M (4 * p + j) → i = j) ∧ x_cn X p = cnt (fun k => gM_nexts M (4 * p + k) ≠ -1) 4
def RMb (M : MS) (X : XT) : Prop := RMv M X ∧ RMa M X ∧ RMn M X
noncomputable def lfl (X : XT) (p : Nat) : Nat := (lea (lck X p) 4).toNatClampNeg
noncomputable def tkr (X : XT) (p : Nat) : Int32 := lea (fun q => rch X q ∧ tk X q (x_of X p) (lfl X p) ∧ ldo X p (x_of X p) (lfl X p) q) 150
noncomputable def kd (X : XT) : Int32 := @ite _ (∃ p, p < 150 ∧ lks X p) (Classical.propDecidable _) 3 (@ite _ (∃ p, p < 150 ∧ clp X p) (Classical.propDecidable _) 4 0)
noncomputable def fp (X : XT) : Int32 := @ite _ (∃ p, p < 150 ∧ lks X p) (Classical.propDecidable _) (lea (lks X) 150) (lea (clp X) 150)
noncomputable def op (X : XT) : Int32 := @ite _ (∃ p, p < 150 ∧ lks X p) (Classical.propDecidable _) (tkr X (lea (lks X) 150).toNatClampNeg) (lea (fun l => cla X l (lea (clp X) 150).toNatClampNeg) 150)
def VMw (M : MS) (X : XT) : Prop := ∀ p, p < 150 → gM_come M p = bi (rch X p)
def VMe (M : MS) (X : XT) : Prop := ∀ p v f, p < 150 → v < x_nv X → f < x_lv X v → gM_lost M (64 * p + 4 * v + f) = bi (lst X v f p) ∧ gM_had M (64 * p + 4 * v + f) = bi (hd X v f p)
def VMu (M : MS) (X : XT) : Prop := ∀ p r, p < 150 → r < x_nv X → x_so X r ≠ 0 → gM_used M (16 * p + r) = bi (usd X r p)
def VMh (M : MS) (X : XT) : Prop := ∀ l, l < 150 → (¬ ml X l → gM_rowOf M l = -1) ∧ (ml X l → gM_rowOf M l = nI (cnt (ml X) l) ∧ ∀ p r, p < 150 → r < 16 → gM_holds M (2400 * cnt (ml X) l + 16 * p + r) = bi (hld X l p r))
def VMf (M : MS) (X : XT) : Prop := (∀ l p, l < 150 → p < 150 → ml X l → rch X p → gM_force M (150 * l + p) = bi (frc X l p)) ∧ gM_fault M = kd X ∧ (kd X = 0 ∨ (gM_faultP M = fp X ∧ gM_otherP M = op X)) ∧ gM_lacking M = nI (cnt (lks X) 150) ∧ gM_clashing M = nI (cnt (clp X) 150)
def RM (M : MS) (X : XT) : Prop := RMb M X ∧ (gM_isOld M = 0 → VMw M X ∧ VMe M X ∧ VMu M X ∧ VMh M X ∧ VMf M X)
/-! first facts -/
theorem nI_31 {n : Nat} (h : n ≤ 4096) : n < 2 ^ 31 := by omega
theorem rch_lt {X : XT} (hX : XI X) {p : Nat} (h : rch X p) : p < 150 := h (fun p => p < 150) (by decide) (fun p q _ he => (hX.2.2.2.1 p q he).2)
theorem rch_0 {X : XT} : rch X 0 := fun _ h _ => h
theorem rch_s {X : XT} {p q : Nat} (h : rch X p) (he : x_ed X p q = true) : rch X q := fun C h0 hs => hs p q (h C h0 hs) he

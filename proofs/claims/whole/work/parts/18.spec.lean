/-! what the calls speak of: variables, acts, ways; numbers are natural -/
abbrev XT : Type := Nat × (Nat → Nat) × (Nat → Nat) × (Nat → Bool) × (Nat → Nat) × (Nat → Nat) × (Nat → Nat) × (Nat → Nat) × (Nat → Nat → Bool) × (Nat → Nat)
def x_nv (X : XT) : Nat := X.1
def x_so (X : XT) : Nat → Nat := X.2.1
def x_lv (X : XT) : Nat → Nat := X.2.2.1
def x_af (X : XT) : Nat → Bool := X.2.2.2.1
def x_ac (X : XT) : Nat → Nat := X.2.2.2.2.1
def x_of (X : XT) : Nat → Nat := X.2.2.2.2.2.1
def x_pa (X : XT) : Nat → Nat := X.2.2.2.2.2.2.1
def x_to (X : XT) : Nat → Nat := X.2.2.2.2.2.2.2.1
def x_ed (X : XT) : Nat → Nat → Bool := X.2.2.2.2.2.2.2.2.1
def x_cn (X : XT) : Nat → Nat := X.2.2.2.2.2.2.2.2.2
/-- digits of a path: none is 0 or 7 -/
def okp : Nat → Nat → Prop
  | 0, _ => True
  | k + 1, x => x = 0 ∨ (1 ≤ x % 8 ∧ x % 8 ≤ 6 ∧ okp k (x / 8))
/-- a begins with b -/
def prf : Nat → Nat → Nat → Prop
  | 0, _, b => b = 0
  | k + 1, a, b => b = 0 ∨ (a % 8 = b % 8 ∧ prf k (a / 8) (b / 8))
def isPl (X : XT) (v x : Nat) : Prop := v < x_nv X ∧ (x < 4096 ∧ okp 4 x) ∧ (x_so X v ≠ 0 → x = 0 ∨ x % 8 = 5) ∧ (x_so X v = 0 → x_lv X v = 1 ∨ x = 0 ∨ x % 8 ≤ x_lv X v)
def wi (X : XT) (v x : Nat) : Prop := (1 < x_lv X v → 8 ≤ x) ∧ (x_lv X v ≤ 1 → 0 < x)
def lf (X : XT) (p f : Nat) : Prop := x_lv X (x_of X p) = 1 ∨ x_pa X p = 0 ∨ x_pa X p % 8 = f + 1
def gv (X : XT) (p v f : Nat) : Prop := ((x_ac X p = 7 ∨ x_ac X p = 8) ∧ x_to X p = v) ∨ (x_ac X p = 3 ∧ x_of X p = v ∧ ¬ wi X v (x_pa X p) ∧ lf X p f)
def tk (X : XT) (p v f : Nat) : Prop := x_of X p = v ∧ ((x_ac X p = 2 ∧ lf X p f) ∨ x_ac X p = 5 ∨ (x_ac X p = 8 ∧ x_so X v = 2))
def wn (X : XT) (p f : Nat) : Prop := x_ac X p = 8 ∨ (x_ac X p ≠ 0 ∧ x_ac X p ≠ 5 ∧ x_ac X p ≠ 6 ∧ x_ac X p ≠ 8 ∧ ¬ (x_ac X p = 3 ∧ ¬ wi X (x_of X p) (x_pa X p)) ∧ lf X p f)
def ml (X : XT) (p : Nat) : Prop := x_ac X p = 7 ∧ x_so X (x_of X p) ≠ 1
def rn (X : XT) (p r : Nat) : Prop := ((x_ac X p = 7 ∨ x_ac X p = 8) ∧ x_to X p = r) ∨ (x_ac X p = 5 ∧ x_of X p = r)
def onp (a : Nat) : Prop := a = 1 ∨ a = 2 ∨ a = 3 ∨ a = 4 ∨ a = 7
def us (X : XT) (p r : Nat) : Prop := (x_ac X p = 8 ∧ x_of X p = r) ∨ (onp (x_ac X p) ∧ x_of X p = r ∧ x_so X r ≠ 0 ∧ 0 < x_pa X p)
def rch (X : XT) (q : Nat) : Prop := ∀ C : Nat → Prop, C 0 → (∀ p q, C p → x_ed X p q = true → C q) → C q
def lst (X : XT) (v f q : Nat) : Prop := ∀ C : Nat → Prop, (x_af X v = false → C 0) → (∀ p q, rch X p → tk X p v f → x_ed X p q = true → C q) → (∀ p q, C p → ¬ gv X p v f → x_ed X p q = true → C q) → C q
def hd (X : XT) (v f q : Nat) : Prop := ∀ C : Nat → Prop, (x_af X v = true → C 0) → (∀ p q, rch X p → gv X p v f → x_ed X p q = true → C q) → (∀ p q, C p → ¬ tk X p v f → x_ed X p q = true → C q) → C q
def usd (X : XT) (r p : Nat) : Prop := ∀ C : Nat → Prop, (∀ p q, rch X p → x_ed X p q = true → (us X q r ∨ (¬ rn X q r ∧ C q)) → C p) → C p
def gone (X : XT) (l p : Nat) : Prop := x_so X (x_of X l) ≠ 0 ∧ rn X p (x_of X l)
def pas (X : XT) (p r : Nat) : Prop := (x_ac X p = 8 ∧ x_of X p = r) ∨ (x_ac X p = 7 ∧ x_of X p = r ∧ x_so X r ≠ 0)
def hld (X : XT) (l p r : Nat) : Prop := ∀ C : Nat → Nat → Prop, (rch X l → x_of X l ≠ x_to X l → ∀ q, x_ed X l q = true → C q (x_to X l)) → (∀ p r q, C p r → ¬ gone X l p → ¬ rn X p r → x_ed X p q = true → C q r) → (∀ p r q, C p r → ¬ gone X l p → pas X p r → x_ed X p q = true → C q (x_to X p)) → C p r
def frc (X : XT) (l p : Nat) : Prop := rch X p ∧ ∃ r, r < x_nv X ∧ x_so X r ≠ 0 ∧ hld X l p r ∧ ¬ rn X p r ∧ usd X r p
def soft (X : XT) (p : Nat) : Prop := x_ac X p = 1 ∨ (x_ac X p = 7 ∧ x_so X (x_to X p) = 1) ∨ (x_ac X p = 8 ∧ x_so X (x_of X p) = 1)
def cls (X : XT) (l p : Nat) : Prop := x_ac X p ≠ 0 ∧ x_ac X p ≠ 5 ∧ x_of X p = x_of X l ∧ ¬ (x_ac X p = 6 ∧ x_so X (x_of X p) ≠ 0) ∧ (x_so X (x_to X l) = 2 ∨ ¬ soft X p) ∧ (prf 4 (x_pa X p) (x_pa X l) ∨ prf 4 (x_pa X l) (x_pa X p))
/-- leaf f of the point's own variable is wanted and lacking -/
def lck (X : XT) (p f : Nat) : Prop := x_ac X p ≠ 0 ∧ f < x_lv X (x_of X p) ∧ wn X p f ∧ lst X (x_of X p) f p
def lks (X : XT) (p : Nat) : Prop := rch X p ∧ ∃ f, lck X p f
/-- the loan of l clashes at p -/
def cla (X : XT) (l p : Nat) : Prop := l < 150 ∧ ml X l ∧ frc X l p ∧ cls X l p
def clp (X : XT) (p : Nat) : Prop := rch X p ∧ ∃ l, cla X l p
/-- from q a way goes on to p on which leaf f of v is not given behind q -/
def lead (X : XT) (p v f q : Nat) : Prop := ∀ C : Nat → Prop, C p → (∀ a b, C b → rch X a → ¬ gv X a v f → x_ed X a b = true → C a) → C q
def ldo (X : XT) (p v f q : Nat) : Prop := ∃ b, x_ed X q b = true ∧ lead X p v f b
/-- how many numbers below n have P -/
noncomputable def cnt (P : Nat → Prop) : Nat → Nat
  | 0 => 0
  | n + 1 => cnt P n + @ite _ (P n) (Classical.propDecidable _) 1 0
/-- the least number below n with P, or NONE -/
noncomputable def lea (P : Nat → Prop) (n : Nat) : Int32 := @dite _ (∃ k, k < n ∧ P k) (Classical.propDecidable _) (fun h => nI (Classical.choose (pk_least (fun k => k < n ∧ P k) h))) (fun _ => -1)
theorem lea_eq {P : Nat → Prop} {n k : Nat} (hk : k < n) (h : P k) (hl : ∀ j, j < k → ¬ P j) : lea P n = nI k := by
  have he : ∃ k, k < n ∧ P k := ⟨k, hk, h⟩
  unfold lea
  rw [dif_pos he]
  have hs := Classical.choose_spec (pk_least (fun k => k < n ∧ P k) he)
  generalize Classical.choose (pk_least (fun k => k < n ∧ P k) he) = j at hs
  have : j = k := by
    rcases Nat.lt_trichotomy j k with h1 | h1 | h1
    · exact absurd hs.1.2 (hl j h1)
    · exact h1
    · exact absurd ⟨hk, h⟩ (hs.2 k h1)
  rw [this]
theorem lea_no {P : Nat → Prop} {n : Nat} (h : ∀ k, k < n → ¬ P k) : lea P n = -1 := by
  unfold lea
  rw [dif_neg]
  rintro ⟨k, hk, hp⟩
  exact h k hk hp
theorem lea_cases (P : Nat → Prop) (n : Nat) : (∃ k, k < n ∧ P k ∧ (∀ j, j < k → ¬ P j) ∧ lea P n = nI k) ∨ ((∀ k, k < n → ¬ P k) ∧ lea P n = -1) := by
  by_cases h : ∃ k, k < n ∧ P k
  · obtain ⟨k, hk, hm⟩ := pk_least (fun k => k < n ∧ P k) h
    exact Or.inl ⟨k, hk.1, hk.2, fun j hj hp => hm j hj ⟨by omega, hp⟩, lea_eq hk.1 hk.2 (fun j hj hp => hm j hj ⟨by omega, hp⟩)⟩
  · have h2 : ∀ k, k < n → ¬ P k := fun k hk hp => h ⟨k, hk, hp⟩
    exact Or.inr ⟨h2, lea_no h2⟩
theorem lea_congr {P Q : Nat → Prop} {n : Nat} (h : ∀ k, k < n → (P k ↔ Q k)) : lea P n = lea Q n := by
  rcases lea_cases P n with ⟨k, hk, hp, hl, e⟩ | ⟨hn, e⟩
  · rw [e, lea_eq hk ((h k hk).mp hp) (fun j hj hq => hl j hj ((h j (by omega)).mpr hq))]
  · rw [e, lea_no (fun k hk hq => hn k hk ((h k hk).mpr hq))]
theorem cnt_congr {P Q : Nat → Prop} {n : Nat} (h : ∀ k, k < n → (P k ↔ Q k)) : cnt P n = cnt Q n := by
  induction n with
  | zero => rfl
  | succ n ih =>
    have e : P n = Q n := propext (h n (Nat.lt_succ_self n))
    show cnt P n + _ = cnt Q n + _
    rw [ih (fun k hk => h k (by omega)), e]
theorem cnt_s_t {P : Nat → Prop} {n : Nat} (h : P n) : cnt P (n + 1) = cnt P n + 1 := by
  show cnt P n + _ = _
  rw [if_pos h]
theorem cnt_s_f {P : Nat → Prop} {n : Nat} (h : ¬ P n) : cnt P (n + 1) = cnt P n := by
  show cnt P n + _ = _
  rw [if_neg h]
  rfl
theorem cnt_le (P : Nat → Prop) (n : Nat) : cnt P n ≤ n := by
  induction n with
  | zero => exact Nat.le_refl 0
  | succ n ih =>
    by_cases h : P n
    · rw [cnt_s_t h]; omega
    · rw [cnt_s_f h]; omega
/-! what holds of the tables -/
def actOk (X : XT) (p : Nat) : Prop :=
  x_ac X p = 0 ∨
  ((x_ac X p = 5 ∨ x_ac X p = 6) ∧ x_of X p < x_nv X ∧ x_pa X p = 0) ∨
  ((x_ac X p = 1 ∨ x_ac X p = 3 ∨ x_ac X p = 4) ∧ isPl X (x_of X p) (x_pa X p) ∧ (x_so X (x_of X p) ≠ 0 → x_pa X p ≠ 0) ∧ (x_ac X p ≠ 1 → x_so X (x_of X p) ≠ 1)) ∨
  (x_ac X p = 2 ∧ isPl X (x_of X p) (x_pa X p) ∧ x_so X (x_of X p) = 0 ∧ ¬ wi X (x_of X p) (x_pa X p)) ∨
  (x_ac X p = 7 ∧ isPl X (x_of X p) (x_pa X p) ∧ x_to X p < x_nv X ∧ x_so X (x_to X p) ≠ 0 ∧ (x_so X (x_of X p) ≠ 0 → x_pa X p ≠ 0) ∧ (x_so X (x_to X p) = 2 → x_so X (x_of X p) ≠ 1)) ∨
  (x_ac X p = 8 ∧ x_of X p < x_nv X ∧ x_to X p < x_nv X ∧ x_so X (x_of X p) ≠ 0 ∧ x_so X (x_to X p) = x_so X (x_of X p) ∧ x_to X p ≠ x_of X p ∧ x_pa X p = 0)
def XI (X : XT) : Prop := x_nv X ≤ 16 ∧ (∀ v, v < x_nv X → x_so X v ≤ 2 ∧ 1 ≤ x_lv X v ∧ x_lv X v ≤ 4 ∧ (x_so X v ≠ 0 → x_lv X v = 1)) ∧ (∀ p, p < 150 → actOk X p) ∧ (∀ p q, x_ed X p q = true → p < 150 ∧ q < 150) ∧ (∀ p, p < 150 → x_cn X p ≤ 4) ∧ cnt (fun p => x_ac X p = 7) 150 ≤ 60

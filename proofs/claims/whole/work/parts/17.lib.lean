/-! numbers -/
theorem n_of (x : Int32) : x = nI x.toBitVec.toNat := by
  apply Int32.toBitVec_inj.mp
  simp [nI]
theorem n_ix (x : Int32) {n : Nat} (hn : n < 2 ^ 31) : (¬ vp_in x n) ∨ ∃ j : Nat, j < n ∧ x = nI j := by
  by_cases h : vp_in x n
  · exact Or.inr (vp_in_of h hn)
  · exact Or.inl h
theorem n_in {j n : Nat} (h : j < n) (hn : n < 2 ^ 31) : vp_in (nI j) n := vp_in_nI h hn
theorem n_cl {j : Nat} (h : j < 2 ^ 31) : (nI j).toNatClampNeg = j := nI_clamp h
theorem n_inj {a b : Nat} (ha : a < 2 ^ 31) (hb : b < 2 ^ 31) (h : nI a = nI b) : a = b := (nI_eq ha hb).mp h
theorem n_m1 {a : Nat} (ha : a < 2 ^ 31) : ¬ nI a = -1 := fun h => by
  have h1 : (nI a).toInt = (-1 : Int32).toInt := congrArg Int32.toInt h
  rw [nI_toInt ha] at h1
  have h2 : (-1 : Int32).toInt = -1 := by decide
  omega
theorem n_lit (k : Nat) (x : Int32) (h : x = nI k) : x = nI k := h
/-- an index out of range: it is below 0, or at least n -/
theorem n_out {x : Int32} {n : Nat} (hn : n < 2 ^ 31) (h : ¬ vp_in x n) : x < 0 ∨ nI n ≤ x := by
  rcases pk_ix x hn with h1 | h1 | ⟨j, hj, rfl⟩
  · exact Or.inl h1
  · exact Or.inr h1
  · exact absurd (vp_in_nI hj hn) h
/-! truth values -/
noncomputable def bi (P : Prop) : Int32 := @ite _ P (Classical.propDecidable P) 1 0
theorem bi_t {P : Prop} (h : P) : bi P = 1 := by unfold bi; exact if_pos h
theorem bi_f {P : Prop} (h : ¬ P) : bi P = 0 := by unfold bi; exact if_neg h
theorem bi_b (P : Prop) : isb (bi P) := by
  by_cases h : P
  · exact Or.inr (bi_t h)
  · exact Or.inl (bi_f h)
theorem bi_0 {P : Prop} : bi P = 0 ↔ ¬ P := by
  by_cases h : P
  · rw [bi_t h]; exact ⟨fun e => absurd e (by decide), fun e => absurd h e⟩
  · rw [bi_f h]; exact ⟨fun _ => h, fun _ => rfl⟩
theorem bi_1 {P : Prop} : bi P = 1 ↔ P := by
  by_cases h : P
  · rw [bi_t h]; exact ⟨fun _ => h, fun _ => rfl⟩
  · rw [bi_f h]; exact ⟨fun e => absurd e (by decide), fun e => absurd e h⟩
theorem bi_n0 {P : Prop} : (¬ bi P = 0) ↔ P := by rw [bi_0]; exact Classical.not_not
theorem bi_e {P Q : Prop} (h : P ↔ Q) : bi P = bi Q := by rw [propext h]
theorem bi_and {P Q : Prop} : bi (P ∧ Q) = bi P * bi Q := by
  by_cases h : P <;> by_cases h2 : Q <;> simp [bi, h, h2]
/-- both branches -/
theorem br {c A B : Prop} (a : c → A) (b : ¬ c → B) : (c → A) ∧ (¬ c → B) := ⟨a, b⟩
theorem brn {c A B : Prop} (a : ¬ c → A) (b : c → B) : (¬ c → A) ∧ (c → B) := ⟨a, b⟩
theorem brt {c A B : Prop} (h : c) (a : A) : (c → A) ∧ (¬ c → B) := ⟨fun _ => a, fun n => absurd h n⟩
theorem brf {c A B : Prop} (h : ¬ c) (b : B) : (c → A) ∧ (¬ c → B) := ⟨fun n => absurd n h, fun _ => b⟩
theorem brnt {c A B : Prop} (h : ¬ c) (a : A) : (¬ c → A) ∧ (c → B) := ⟨fun _ => a, fun n => absurd n h⟩
theorem brnf {c A B : Prop} (h : c) (b : B) : (¬ c → A) ∧ (c → B) := ⟨fun n => absurd h n, fun _ => b⟩
theorem bi_br {P A B : Prop} (a : P → A) (b : ¬ P → B) : (bi P = 0 → B) ∧ (¬ bi P = 0 → A) := ⟨fun h => b (bi_0.mp h), fun h => a (bi_n0.mp h)⟩
theorem bi_brn {P A B : Prop} (a : P → A) (b : ¬ P → B) : (¬ bi P = 0 → A) ∧ (bi P = 0 → B) := ⟨fun h => a (bi_n0.mp h), fun h => b (bi_0.mp h)⟩
theorem zb {P : Prop} {v : Int32} (h : v = bi P) : isb v := by rw [h]; exact bi_b P
theorem nb_0 : vp_nar .boolean 0 = 0 := rfl
theorem nb_1 : vp_nar .boolean 1 = 1 := rfl
theorem nb_i {v : Int32} (h : isb v) : vp_nar .boolean v = v := by rcases h with rfl | rfl <;> rfl
/-! long words as sets of bits -/
def lb (w : Int64) (i : Nat) : Bool := w.toBitVec.getLsbD i
theorem lb_and (x y : Int64) (i : Nat) : lb (x &&& y) i = (lb x i && lb y i) := by simp [lb]
theorem lb_or (x y : Int64) (i : Nat) : lb (x ||| y) i = (lb x i || lb y i) := by simp [lb]
theorem lb_0 (i : Nat) : lb 0 i = false := by simp [lb]
theorem lb_not (x : Int64) {i : Nat} (hi : i < 64) : lb (x ^^^ (-1)) i = !lb x i := by
  have h : (-1 : Int64).toBitVec = BitVec.allOnes 64 := by decide
  simp [lb, h, hi]
theorem lb_m1 {i : Nat} (hi : i < 64) : lb (-1) i = true := by
  have h : (-1 : Int64).toBitVec = BitVec.allOnes 64 := by decide
  unfold lb
  rw [h, BitVec.getLsbD_allOnes]
  exact decide_eq_true hi
theorem lb_big {x : Int64} {i : Nat} (h : 64 ≤ i) : lb x i = false := by
  unfold lb; exact BitVec.getLsbD_of_ge _ _ h
theorem lb_ext {x y : Int64} (h : ∀ i, i < 64 → lb x i = lb y i) : x = y := by
  apply Int64.toBitVec_inj.mp
  exact BitVec.eq_of_getLsbD_eq h
theorem lb_z {x : Int64} : x = 0 ↔ ∀ i, i < 64 → lb x i = false := ⟨fun h i _ => by rw [h]; exact lb_0 i, fun h => lb_ext (fun i hi => by rw [h i hi, lb_0])⟩
theorem lb_nz {x : Int64} : ¬ x = 0 ↔ ∃ i, i < 64 ∧ lb x i = true := by
  rw [lb_z]
  constructor
  · intro h
    apply Classical.byContradiction
    intro h2
    exact h (fun i hi => by
      cases e : lb x i
      · rfl
      · exact absurd ⟨i, hi, e⟩ h2)
  · rintro ⟨i, hi, e⟩ h
    rw [h i hi] at e
    cases e
theorem cmp0 {x y : Int64} : lg_cmp x y = 0 ↔ x = y := by
  unfold lg_cmp
  by_cases h : x > y
  · rw [if_pos h]
    constructor
    · intro e; exact absurd e (by decide)
    · rintro rfl; exact absurd h (Int64.lt_irrefl)
  · rw [if_neg h]
    by_cases h2 : x = y
    · rw [if_pos h2]; exact ⟨fun _ => h2, fun _ => rfl⟩
    · rw [if_neg h2]
      constructor
      · intro e; exact absurd e (by decide)
      · intro e; exact absurd e h2
theorem one_sh : ∀ k, k < 64 → ((1 : Int64) <<< ((nI k).toInt64 &&& 63)).toBitVec = BitVec.twoPow 64 k := by decide +kernel
theorem lb_one {k : Nat} (hk : k < 64) (i : Nat) : lb ((1 : Int64) <<< ((nI k).toInt64 &&& 63)) i = decide (i = k) := by
  unfold lb
  rw [one_sh k hk, BitVec.getLsbD_twoPow]
  by_cases h : k = i
  · subst h; simp [hk]
  · have : ¬ i = k := fun e => h e.symm
    simp [h, this]
/-! int words as sets of bits -/
def ib (w : Int32) (i : Nat) : Bool := w.toBitVec.getLsbD i
theorem ib_and (x y : Int32) (i : Nat) : ib (x &&& y) i = (ib x i && ib y i) := by simp [ib]
theorem ib_or (x y : Int32) (i : Nat) : ib (x ||| y) i = (ib x i || ib y i) := by simp [ib]
theorem ib_0 (i : Nat) : ib 0 i = false := by simp [ib]
theorem ib_not (x : Int32) {i : Nat} (hi : i < 32) : ib (x ^^^ (-1)) i = !ib x i := by
  have h : (-1 : Int32).toBitVec = BitVec.allOnes 32 := by decide
  simp [ib, h, hi]
theorem ib_ext {x y : Int32} (h : ∀ i, i < 32 → ib x i = ib y i) : x = y := by
  apply Int32.toBitVec_inj.mp
  exact BitVec.eq_of_getLsbD_eq h
theorem ib_z {x : Int32} : x = 0 ↔ ∀ i, i < 32 → ib x i = false := ⟨fun h i _ => by rw [h]; exact ib_0 i, fun h => ib_ext (fun i hi => by rw [h i hi, ib_0])⟩
theorem ib_nz {x : Int32} : ¬ x = 0 ↔ ∃ i, i < 32 ∧ ib x i = true := by
  rw [ib_z]
  constructor
  · intro h
    apply Classical.byContradiction
    intro h2
    exact h (fun i hi => by
      cases e : ib x i
      · rfl
      · exact absurd ⟨i, hi, e⟩ h2)
  · rintro ⟨i, hi, e⟩ h
    rw [h i hi] at e
    cases e
theorem ione_sh : ∀ k, k < 32 → ((1 : Int32) <<< (nI k &&& 31)).toBitVec = BitVec.twoPow 32 k := by decide +kernel
theorem ib_one {k : Nat} (hk : k < 32) (i : Nat) : ib ((1 : Int32) <<< (nI k &&& 31)) i = decide (i = k) := by
  unfold ib
  rw [ione_sh k hk, BitVec.getLsbD_twoPow]
  by_cases h : k = i
  · subst h; simp [hk]
  · have : ¬ i = k := fun e => h e.symm
    simp [h, this]
/-! arrays as functions -/
theorem u_s {f : Nat → Int32} {k : Nat} {x : Int32} : upd f k x k = x := pk_us
theorem u_n {f : Nat → Int32} {k j : Nat} {x : Int32} (h : j ≠ k) : upd f k x j = f j := pk_un h
theorem ul_s {f : Nat → Int64} {k : Nat} {x : Int64} : vp_updL f k x k = x := pk_uLs
theorem ul_n {f : Nat → Int64} {k j : Nat} {x : Int64} (h : j ≠ k) : vp_updL f k x j = f j := pk_uLn h
theorem fi_lt {n : Nat} {v : Int32} {f : Nat → Int32} {j : Nat} (h : j < n) : fl_I n v f j = v := if_pos h
theorem fj_lt {n : Nat} {v : Int64} {f : Nat → Int64} {j : Nat} (h : j < n) : fl_J n v f j = v := if_pos h
/-! a loop with a measure: one state type -/
theorem lpm {α : Type} (W : Nat → α → Prop) (I : α → Prop) (μ : α → Nat) (hs : ∀ (n : Nat) (a : α), I a → (∀ b, I b → μ b < μ a → W n b) → W (n + 1) a) : ∀ (a : α), I a → ∃ n, W n a := by
  have key : ∀ (k : Nat) (a : α), I a → μ a < k → W k a := by
    intro k
    induction k with
    | zero => intro a _ h; exact absurd h (Nat.not_lt_zero _)
    | succ k ih => intro a ha hk; exact hs k a ha (fun b hb hlt => ih b hb (by omega))
  exact fun a ha => ⟨μ a + 1, key _ a ha (Nat.lt_succ_self _)⟩
/-- a counting loop: from i to e, in e - i + 1 turns -/
theorem lpc {α : Type} (W : Nat → Nat → α → Prop) (I : Nat → α → Prop) (e : Nat) (hx : ∀ n a, I e a → W (n + 1) e a) (hs : ∀ n i a, i < e → I i a → (∀ b, I (i + 1) b → W n (i + 1) b) → W (n + 1) i a) : ∀ (i : Nat) (a : α), i ≤ e → I i a → ∃ n, W n i a := by
  have key : ∀ (k i : Nat) (a : α), i + k = e → I i a → W (k + 1) i a := by
    intro k
    induction k with
    | zero => intro i a h hi; have : i = e := by omega
              subst this; exact hx 0 a hi
    | succ k ih => intro i a h hi; exact hs _ i a (by omega) hi (fun b hb => ih (i + 1) b (by omega) hb)
  exact fun i a h hi => ⟨e - i + 1, key _ i a (by omega) hi⟩

theorem wb_tb (n : Nat) : (lN n).toBitVec = BitVec.ofNat 64 n := rfl
theorem wb_inj {a b : Int64} (h : a.toBitVec = b.toBitVec) : a = b := Int64.toBitVec_inj.mp h
theorem wb_tn {n : Nat} (h : n < 2 ^ 64) : (lN n).toBitVec.toNat = n := by rw [wb_tb, BitVec.toNat_ofNat, Nat.mod_eq_of_lt h]
theorem wb_of (x : Int64) : ∃ n, n < 2 ^ 64 ∧ x = lN n := ⟨x.toBitVec.toNat, x.toBitVec.isLt, wb_inj (by rw [wb_tb]; simp)⟩
theorem wb_cu : ∀ k, k < 64 → ((nI k).toInt64.toUInt64 &&& Int64.toUInt64 63) = UInt64.ofNat k := by decide +kernel
theorem wb_shr {n k : Nat} (hn : n < 2 ^ 64) (hk : k < 64) : ((lN n).toUInt64 >>> ((nI k).toInt64.toUInt64 &&& Int64.toUInt64 63)).toInt64 = lN (n / 2 ^ k) := by
  rw [wb_cu k hk]
  apply wb_inj
  apply BitVec.eq_of_toNat_eq
  show ((lN n).toUInt64 >>> UInt64.ofNat k).toNat = (BitVec.ofNat 64 _).toNat
  have h1 : (UInt64.ofNat k).toNat = k := by
    show (BitVec.ofNat 64 k).toNat = k
    rw [BitVec.toNat_ofNat, Nat.mod_eq_of_lt (by omega)]
  have h2 : (lN n).toUInt64.toNat = n := wb_tn hn
  rw [UInt64.toNat_shiftRight, h1, h2, Nat.mod_eq_of_lt hk, Nat.shiftRight_eq_div_pow, BitVec.toNat_ofNat, Nat.mod_eq_of_lt (Nat.lt_of_le_of_lt (Nat.div_le_self _ _) hn)]
theorem wb_and {a b : Nat} (ha : a < 2 ^ 64) (hb : b < 2 ^ 64) : lN a &&& lN b = lN (a &&& b) := by
  apply wb_inj
  rw [Int64.toBitVec_and, wb_tb, wb_tb, wb_tb]
  apply BitVec.eq_of_toNat_eq
  rw [BitVec.toNat_and, BitVec.toNat_ofNat, BitVec.toNat_ofNat, BitVec.toNat_ofNat, Nat.mod_eq_of_lt ha, Nat.mod_eq_of_lt hb, Nat.mod_eq_of_lt (Nat.and_lt_two_pow _ hb)]
/-! numbers as rows of digits -/
def VL_ (B : Nat) (a : Nat → Nat) : Nat → Nat
  | 0 => 0
  | k + 1 => a 0 + B * VL_ B (fun i => a (i + 1)) k
theorem V_congr {B : Nat} : ∀ (k : Nat) {a c : Nat → Nat}, (∀ i, i < k → a i = c i) → VL_ B a k = VL_ B c k := by
  intro k
  induction k with
  | zero => intro a c _; rfl
  | succ k ih =>
    intro a c h
    show a 0 + B * VL_ B (fun i => a (i + 1)) k = c 0 + B * VL_ B (fun i => c (i + 1)) k
    rw [h 0 (by omega), ih (fun i hi => h (i + 1) (by omega))]
theorem V_add {B : Nat} : ∀ (k : Nat) (a c : Nat → Nat), VL_ B (fun i => a i + c i) k = VL_ B a k + VL_ B c k := by
  intro k
  induction k with
  | zero => intro a c; rfl
  | succ k ih =>
    intro a c
    show (a 0 + c 0) + B * VL_ B (fun i => a (i + 1) + c (i + 1)) k = (a 0 + B * VL_ B (fun i => a (i + 1)) k) + (c 0 + B * VL_ B (fun i => c (i + 1)) k)
    rw [ih (fun i => a (i + 1)) (fun i => c (i + 1)), Nat.mul_add]
    omega
theorem V_lt {B : Nat} (hB : 0 < B) : ∀ (k : Nat) (a : Nat → Nat), (∀ i, i < k → a i < B) → VL_ B a k < B ^ k := by
  intro k
  induction k with
  | zero => intro a _; exact Nat.one_pos
  | succ k ih =>
    intro a h
    have h0 := h 0 (by omega)
    have h1 := ih (fun i => a (i + 1)) (fun i hi => h (i + 1) (by omega))
    show a 0 + B * VL_ B (fun i => a (i + 1)) k < B ^ (k + 1)
    rw [Nat.pow_succ, Nat.mul_comm (B ^ k) B]
    have : B * (VL_ B (fun i => a (i + 1)) k + 1) ≤ B * B ^ k := Nat.mul_le_mul_left B h1
    rw [Nat.mul_add] at this
    omega
theorem V_top {B : Nat} : ∀ (k : Nat) (a : Nat → Nat), a k = 0 → VL_ B a (k + 1) = VL_ B a k := by
  intro k
  induction k with
  | zero => intro a h; show a 0 + B * 0 = 0; rw [h]; rfl
  | succ k ih =>
    intro a h
    show a 0 + B * VL_ B (fun i => a (i + 1)) (k + 1) = a 0 + B * VL_ B (fun i => a (i + 1)) k
    rw [ih (fun i => a (i + 1)) h]
theorem V_div {B : Nat} (hB : 0 < B) {k : Nat} {a : Nat → Nat} (hk : 0 < k) (h0 : a 0 < B) (ht : a k = 0) : VL_ B a k / B = VL_ B (fun i => a (i + 1)) k := by
  obtain ⟨k, rfl⟩ : ∃ j, k = j + 1 := ⟨k - 1, by omega⟩
  rw [V_top k (fun i => a (i + 1)) ht]
  show (a 0 + B * VL_ B (fun i => a (i + 1)) k) / B = _
  rw [Nat.add_mul_div_left _ _ hB, Nat.div_eq_of_lt h0, Nat.zero_add]
theorem V_and {b : Nat} : ∀ (k : Nat) (a c : Nat → Nat), (∀ i, i < k → a i < 2 ^ b) → (∀ i, i < k → c i < 2 ^ b) → VL_ (2 ^ b) a k &&& VL_ (2 ^ b) c k = VL_ (2 ^ b) (fun i => a i &&& c i) k := by
  intro k
  induction k with
  | zero => intro a c _ _; show 0 &&& 0 = 0; rfl
  | succ k ih =>
    intro a c ha hc
    have h1 := ih (fun i => a (i + 1)) (fun i => c (i + 1)) (fun i hi => ha (i + 1) (by omega)) (fun i hi => hc (i + 1) (by omega))
    have ha0 := ha 0 (by omega)
    have hc0 := hc 0 (by omega)
    show (a 0 + 2 ^ b * VL_ (2 ^ b) (fun i => a (i + 1)) k) &&& (c 0 + 2 ^ b * VL_ (2 ^ b) (fun i => c (i + 1)) k) = (a 0 &&& c 0) + 2 ^ b * VL_ (2 ^ b) (fun i => a (i + 1) &&& c (i + 1)) k
    rw [← h1]
    apply Nat.eq_of_testBit_eq
    intro j
    rw [Nat.testBit_and, Nat.add_comm, Nat.add_comm (c 0), Nat.add_comm (a 0 &&& c 0), Nat.testBit_two_pow_mul_add _ ha0, Nat.testBit_two_pow_mul_add _ hc0, Nat.testBit_two_pow_mul_add _ (Nat.and_lt_two_pow (a 0) hc0)]
    by_cases hj : j < b
    · simp [hj, Nat.testBit_and]
    · simp [hj, Nat.testBit_and]
theorem V_group {B : Nat} : ∀ (k : Nat) (a : Nat → Nat), VL_ B a (2 * k) = VL_ (B * B) (fun i => a (2 * i) + B * a (2 * i + 1)) k := by
  intro k
  induction k with
  | zero => intro a; rfl
  | succ k ih =>
    intro a
    have e : 2 * (k + 1) = 2 * k + 1 + 1 := by omega
    rw [e]
    show a 0 + B * (a (0 + 1) + B * VL_ B (fun i => a (i + 1 + 1)) (2 * k)) = (a (2 * 0) + B * a (2 * 0 + 1)) + B * B * VL_ (B * B) (fun i => a (2 * (i + 1)) + B * a (2 * (i + 1) + 1)) k
    rw [ih (fun i => a (i + 1 + 1)), Nat.mul_add, Nat.mul_assoc]
    have e2 : (fun i => a (2 * i + 1 + 1) + B * a (2 * i + 1 + 1 + 1)) = (fun i => a (2 * (i + 1)) + B * a (2 * (i + 1) + 1)) := by funext i; rw [show 2 * (i + 1) = 2 * i + 1 + 1 by omega]
    rw [e2]
    show a 0 + (B * a 1 + B * (B * _)) = (a 0 + B * a 1) + B * (B * _)
    omega
theorem V_bits : ∀ (k n : Nat), n < 2 ^ k → n = VL_ 2 (fun i => n / 2 ^ i % 2) k := by
  intro k
  induction k with
  | zero => intro n h; have : n = 0 := by have : 2 ^ 0 = 1 := rfl; omega
            rw [this]; rfl
  | succ k ih =>
    intro n h
    have h2 : n / 2 < 2 ^ k := by rw [Nat.pow_succ] at h; omega
    have := ih (n / 2) h2
    show n = n / 2 ^ 0 % 2 + 2 * VL_ 2 (fun i => n / 2 ^ (i + 1) % 2) k
    have e : (fun i => n / 2 ^ (i + 1) % 2) = (fun i => n / 2 / 2 ^ i % 2) := by funext i; rw [Nat.div_div_eq_div_mul, Nat.pow_succ, Nat.mul_comm (2 ^ i) 2]
    rw [e, ← this, Nat.pow_zero, Nat.div_one]
    omega
theorem V_group2 (b k : Nat) (a : Nat → Nat) : VL_ (2 ^ b) a (2 * k) = VL_ (2 ^ (b + b)) (fun i => a (2 * i) + 2 ^ b * a (2 * i + 1)) k := by rw [V_group, Nat.pow_add]
def M5 : Nat := 6148914691236517205
def M3 : Nat := 3689348814741910323
def MF : Nat := 1085102592571150095
theorem M5_V : M5 = VL_ (2 ^ (1 + 1)) (fun _ => 1) 32 := by decide +kernel
theorem M3_V : M3 = VL_ (2 ^ (2 + 2)) (fun _ => 3) 16 := by decide +kernel
theorem MF_V : MF = VL_ (2 ^ (4 + 4)) (fun _ => 15) 8 := by decide +kernel
/-- the sum of all bits, by halves -/
def pp1 (b : Nat → Nat) (i : Nat) : Nat := b (2 * i) + b (2 * i + 1)
theorem pop1 {k : Nat} (hk : 0 < k) {b : Nat → Nat} (hb : ∀ i, b i ≤ 1) (hz : ∀ i, 2 * k ≤ i → b i = 0) : VL_ (2 ^ 1) b (2 * k) - ((VL_ (2 ^ 1) b (2 * k) / 2 ^ 1) &&& VL_ (2 ^ (1 + 1)) (fun _ => 1) k) = VL_ (2 ^ (1 + 1)) (pp1 b) k := by
  have e1 : VL_ (2 ^ 1) b (2 * k) / 2 ^ 1 = VL_ (2 ^ 1) (fun i => b (i + 1)) (2 * k) := V_div (by omega) (by omega) (by have := hb 0; omega) (hz _ (Nat.le_refl _))
  have e4 : VL_ (2 ^ (1 + 1)) (fun i => b (2 * i + 1) + 2 ^ 1 * b (2 * i + 1 + 1)) k &&& VL_ (2 ^ (1 + 1)) (fun _ => 1) k = VL_ (2 ^ (1 + 1)) (fun i => b (2 * i + 1)) k := by
    rw [V_and k _ _ (fun i _ => by have := hb (2 * i + 1); have := hb (2 * i + 1 + 1); omega) (fun i _ => by omega)]
    refine V_congr k (fun i _ => ?_)
    have := hb (2 * i + 1)
    rw [Nat.and_one_is_mod]; omega
  have e5 : VL_ (2 ^ (1 + 1)) (fun i => b (2 * i) + 2 ^ 1 * b (2 * i + 1)) k = VL_ (2 ^ (1 + 1)) (pp1 b) k + VL_ (2 ^ (1 + 1)) (fun i => b (2 * i + 1)) k := by
    rw [← V_add]
    exact V_congr k (fun i _ => by unfold pp1; omega)
  rw [e1, V_group2 1 k b, V_group2 1 k (fun i => b (i + 1)), e4, e5, Nat.add_sub_cancel]
theorem pop2 {k : Nat} (hk : 0 < k) {s : Nat → Nat} (hs : ∀ i, s i ≤ 2) (hz : ∀ i, 2 * k ≤ i → s i = 0) : (VL_ (2 ^ 2) s (2 * k) &&& VL_ (2 ^ (2 + 2)) (fun _ => 3) k) + ((VL_ (2 ^ 2) s (2 * k) / 2 ^ 2) &&& VL_ (2 ^ (2 + 2)) (fun _ => 3) k) = VL_ (2 ^ (2 + 2)) (pp1 s) k := by
  have e1 : VL_ (2 ^ 2) s (2 * k) / 2 ^ 2 = VL_ (2 ^ 2) (fun i => s (i + 1)) (2 * k) := V_div (by omega) (by omega) (by have := hs 0; omega) (hz _ (Nat.le_refl _))
  have ha : ∀ (c d : Nat → Nat), (∀ i, c i ≤ 2) → (∀ i, d i ≤ 2) → VL_ (2 ^ (2 + 2)) (fun i => c i + 2 ^ 2 * d i) k &&& VL_ (2 ^ (2 + 2)) (fun _ => 3) k = VL_ (2 ^ (2 + 2)) c k := fun c d hc hd => by
    rw [V_and k _ _ (fun i _ => by have := hc i; have := hd i; omega) (fun i _ => by omega)]
    refine V_congr k (fun i _ => ?_)
    have := hc i
    rw [show (3 : Nat) = 2 ^ 2 - 1 from rfl, Nat.and_two_pow_sub_one_eq_mod]; omega
  rw [e1, V_group2 2 k s, V_group2 2 k (fun i => s (i + 1)), ha (fun i => s (2 * i)) (fun i => s (2 * i + 1)) (fun i => hs _) (fun i => hs _), ha (fun i => s (2 * i + 1)) (fun i => s (2 * i + 1 + 1)) (fun i => hs _) (fun i => hs _), ← V_add]
  exact V_congr k (fun i _ => rfl)
theorem pop3 {k : Nat} (hk : 0 < k) {t : Nat → Nat} (ht : ∀ i, t i ≤ 4) (hz : ∀ i, 2 * k ≤ i → t i = 0) : (VL_ (2 ^ 4) t (2 * k) + VL_ (2 ^ 4) t (2 * k) / 2 ^ 4) &&& VL_ (2 ^ (4 + 4)) (fun _ => 15) k = VL_ (2 ^ (4 + 4)) (pp1 t) k := by
  have e1 : VL_ (2 ^ 4) t (2 * k) / 2 ^ 4 = VL_ (2 ^ 4) (fun i => t (i + 1)) (2 * k) := V_div (by omega) (by omega) (by have := ht 0; omega) (hz _ (Nat.le_refl _))
  rw [e1, ← V_add, V_group2 4 k (fun i => t i + t (i + 1)), V_and k _ _ (fun i _ => by have := ht (2 * i); have := ht (2 * i + 1); have := ht (2 * i + 1 + 1); omega) (fun i _ => by omega)]
  refine V_congr k (fun i _ => ?_)
  have := ht (2 * i)
  have := ht (2 * i + 1)
  rw [show (15 : Nat) = 2 ^ 4 - 1 from rfl, Nat.and_two_pow_sub_one_eq_mod]
  unfold pp1; omega
theorem pop4 {k : Nat} (hk : 0 < k) {w : Nat → Nat} (hw : ∀ i, w i ≤ 8) (hz : ∀ i, k ≤ i → w i = 0) : ∃ y4 y5 y6, y4 = VL_ (2 ^ 8) w k + VL_ (2 ^ 8) w k / 2 ^ 8 ∧ y5 = y4 + y4 / 2 ^ 16 ∧ y6 = y5 + y5 / 2 ^ 32 ∧ y4 < (2 ^ 8) ^ k ∧ y5 < (2 ^ 8) ^ k ∧ y6 < (2 ^ 8) ^ k ∧ y6 % 128 = w 0 + w 1 + w 2 + w 3 + w 4 + w 5 + w 6 + w 7 := by
  have dv : ∀ (a : Nat → Nat), (∀ i, a i < 2 ^ 8) → (∀ i, k ≤ i → a i = 0) → VL_ (2 ^ 8) a k / 2 ^ 8 = VL_ (2 ^ 8) (fun i => a (i + 1)) k := fun a ha hz => V_div (B := 2 ^ 8) (by omega) hk (ha 0) (hz k (Nat.le_refl _))
  have e4 : VL_ (2 ^ 8) w k + VL_ (2 ^ 8) w k / 2 ^ 8 = VL_ (2 ^ 8) (fun i => w i + w (i + 1)) k := by rw [dv w (fun i => by have := hw i; omega) hz, ← V_add]
  have s4 : ∀ i, w i + w (i + 1) ≤ 16 := fun i => by have := hw i; have := hw (i + 1); omega
  have z4 : ∀ i, k ≤ i → w i + w (i + 1) = 0 := fun i hi => by rw [hz i hi, hz (i + 1) (by omega)]
  have e5 : VL_ (2 ^ 8) (fun i => w i + w (i + 1)) k + VL_ (2 ^ 8) (fun i => w i + w (i + 1)) k / 2 ^ 16 = VL_ (2 ^ 8) (fun i => (w i + w (i + 1)) + (w (i + 2) + w (i + 3))) k := by
    rw [show 2 ^ 16 = 2 ^ 8 * 2 ^ 8 from rfl, ← Nat.div_div_eq_div_mul, dv (fun i => w i + w (i + 1)) (fun i => by have := s4 i; omega) z4, dv (fun i => w (i + 1) + w (i + 1 + 1)) (fun i => by have := s4 (i + 1); omega) (fun i hi => z4 (i + 1) (by omega)), ← V_add]
  have s5 : ∀ i, (w i + w (i + 1)) + (w (i + 2) + w (i + 3)) ≤ 32 := fun i => by have := hw i; have := hw (i + 1); have := hw (i + 2); have := hw (i + 3); omega
  have z5 : ∀ i, k ≤ i → (w i + w (i + 1)) + (w (i + 2) + w (i + 3)) = 0 := fun i hi => by rw [z4 i hi, z4 (i + 2) (by omega)]
  have e6 : VL_ (2 ^ 8) (fun i => (w i + w (i + 1)) + (w (i + 2) + w (i + 3))) k + VL_ (2 ^ 8) (fun i => (w i + w (i + 1)) + (w (i + 2) + w (i + 3))) k / 2 ^ 32 = VL_ (2 ^ 8) (fun i => ((w i + w (i + 1)) + (w (i + 2) + w (i + 3))) + ((w (i + 4) + w (i + 5)) + (w (i + 6) + w (i + 7)))) k := by
    rw [show 2 ^ 32 = 2 ^ 8 * 2 ^ 8 * 2 ^ 8 * 2 ^ 8 from rfl, ← Nat.div_div_eq_div_mul, ← Nat.div_div_eq_div_mul, ← Nat.div_div_eq_div_mul, dv (fun i => (w i + w (i + 1)) + (w (i + 2) + w (i + 3))) (fun i => by have := s5 i; omega) z5, dv (fun i => (w (i + 1) + w (i + 1 + 1)) + (w (i + 1 + 2) + w (i + 1 + 3))) (fun i => by have := s5 (i + 1); omega) (fun i hi => z5 (i + 1) (by omega)), dv (fun i => (w (i + 1 + 1) + w (i + 1 + 1 + 1)) + (w (i + 1 + 1 + 2) + w (i + 1 + 1 + 3))) (fun i => by have := s5 (i + 1 + 1); omega) (fun i hi => z5 (i + 1 + 1) (by omega)), dv (fun i => (w (i + 1 + 1 + 1) + w (i + 1 + 1 + 1 + 1)) + (w (i + 1 + 1 + 1 + 2) + w (i + 1 + 1 + 1 + 3))) (fun i => by have := s5 (i + 1 + 1 + 1); omega) (fun i hi => z5 (i + 1 + 1 + 1) (by omega)), ← V_add]
  have lt : ∀ a : Nat → Nat, (∀ i, a i < 2 ^ 8) → VL_ (2 ^ 8) a k < (2 ^ 8) ^ k := fun a ha => V_lt (B := 2 ^ 8) (by omega) k a (fun i _ => ha i)
  refine ⟨_, _, _, rfl, rfl, rfl, ?_, ?_, ?_, ?_⟩
  · rw [e4]; exact lt _ (fun i => by have := s4 i; omega)
  · rw [e4, e5]; exact lt _ (fun i => by have := s5 i; omega)
  · rw [e4, e5, e6]; exact lt _ (fun i => by have := s5 i; have := hw (i + 4); have := hw (i + 5); have := hw (i + 6); have := hw (i + 7); omega)
  · rw [e4, e5, e6]
    obtain ⟨j, rfl⟩ : ∃ j, k = j + 1 := ⟨k - 1, by omega⟩
    show (((w 0 + w 1) + (w 2 + w 3)) + ((w 4 + w 5) + (w 6 + w 7)) + 2 ^ 8 * _) % 128 = _
    have h0 := hw 0; have h1 := hw 1; have h2 := hw 2; have h3 := hw 3; have h4 := hw 4; have h5 := hw 5; have h6 := hw 6; have h7 := hw 7
    omega
theorem cnt_sm (b : Nat → Nat) (P : Nat → Prop) (h : ∀ i, (P i → b i = 1) ∧ (¬ P i → b i = 0)) : ∀ n, cnt P n = sm b n := by
  intro n
  induction n with
  | zero => rfl
  | succ n ih =>
    show cnt P n + _ = sm b n + b n
    by_cases hp : P n
    · rw [if_pos hp, ih, (h n).1 hp]
    · rw [if_neg hp, ih, (h n).2 hp]

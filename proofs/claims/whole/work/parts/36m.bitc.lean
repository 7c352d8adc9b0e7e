theorem M5_K : ∀ K, K = 8 → M5 = VL_ (2 ^ (1 + 1)) (fun _ => 1) (2 * (2 * K)) := by intro K h; subst h; decide +kernel
theorem M3_K : ∀ K, K = 8 → M3 = VL_ (2 ^ (2 + 2)) (fun _ => 3) (2 * K) := by intro K h; subst h; decide +kernel
theorem MF_K : ∀ K, K = 8 → MF = VL_ (2 ^ (4 + 4)) (fun _ => 15) K := by intro K h; subst h; decide +kernel
theorem sm_pp (b : Nat → Nat) : ∀ k, sm (pp1 b) k = sm b (2 * k) := by
  intro k
  induction k with
  | zero => rfl
  | succ k ih =>
    rw [show 2 * (k + 1) = 2 * k + 1 + 1 by omega]
    show sm (pp1 b) k + pp1 b k = sm b (2 * k) + b (2 * k) + b (2 * k + 1)
    rw [ih]
    unfold pp1
    omega
theorem sm_8 (w : Nat → Nat) (K : Nat) (hK : K = 8) : w 0 + w 1 + w 2 + w 3 + w 4 + w 5 + w 6 + w 7 = sm w K := by
  subst hK
  simp only [sm, Nat.zero_add]
theorem pp_le {b : Nat → Nat} {c : Nat} (h : ∀ i, b i ≤ c) : ∀ i, pp1 b i ≤ c + c := fun i => Nat.add_le_add (h _) (h _)
theorem pp_z {b : Nat → Nat} {c : Nat} (h : ∀ i, 2 * c ≤ i → b i = 0) : ∀ i, c ≤ i → pp1 b i = 0 := fun i hi => by
  unfold pp1
  rw [h (2 * i) (by omega), h (2 * i + 1) (by omega)]
theorem pop_all {n K : Nat} {b : Nat → Nat} (hK : K = 8) (hV : n = VL_ (2 ^ 1) b (2 * (2 * (2 * K)))) (hb : ∀ i, b i ≤ 1) (hz : ∀ i, 2 * (2 * (2 * K)) ≤ i → b i = 0) : ∃ y1 y2 y3 y4 y5 y6, y1 = n - (n / 2 ^ 1 &&& M5) ∧ y2 = (y1 &&& M3) + (y1 / 2 ^ 2 &&& M3) ∧ y3 = (y2 + y2 / 2 ^ 4) &&& MF ∧ y4 = y3 + y3 / 2 ^ 8 ∧ y5 = y4 + y4 / 2 ^ 16 ∧ y6 = y5 + y5 / 2 ^ 32 ∧ (y1 < 2 ^ 64 ∧ y2 < 2 ^ 64 ∧ y3 < 2 ^ 64 ∧ y4 < 2 ^ 64 ∧ y5 < 2 ^ 64 ∧ y6 < 2 ^ 64) ∧ y6 % 128 = sm b (2 * (2 * (2 * K))) := by
  have p1 := pop1 (k := 2 * (2 * K)) (by omega) hb hz
  rw [← hV, ← M5_K K hK] at p1
  have h1 := pp_le hb
  have z1 := pp_z hz
  have p2 := pop2 (k := 2 * K) (by omega) h1 z1
  rw [← M3_K K hK] at p2
  have h2 := pp_le h1
  have z2 := pp_z z1
  have p3 := pop3 (k := K) (by omega) h2 z2
  rw [← MF_K K hK] at p3
  have h3 := pp_le h2
  have z3 := pp_z z2
  obtain ⟨y4, y5, y6, q4, q5, q6, l4, l5, l6, hm⟩ := pop4 (k := K) (by omega) h3 z3
  have lV1 : VL_ (2 ^ (1 + 1)) (pp1 b) (2 * (2 * K)) < 2 ^ 64 := by
    have := V_lt (B := 2 ^ (1 + 1)) (by omega) (2 * (2 * K)) (pp1 b) (fun i _ => by have := h1 i; omega)
    rw [← Nat.pow_mul, show (1 + 1) * (2 * (2 * K)) = 64 by omega] at this
    exact this
  have lV2 : VL_ (2 ^ (2 + 2)) (pp1 (pp1 b)) (2 * K) < 2 ^ 64 := by
    have := V_lt (B := 2 ^ (2 + 2)) (by omega) (2 * K) (pp1 (pp1 b)) (fun i _ => by have := h2 i; omega)
    rw [← Nat.pow_mul, show (2 + 2) * (2 * K) = 64 by omega] at this
    exact this
  have lV3 : VL_ (2 ^ (4 + 4)) (pp1 (pp1 (pp1 b))) K < 2 ^ 64 := by
    have := V_lt (B := 2 ^ (4 + 4)) (by omega) K (pp1 (pp1 (pp1 b))) (fun i _ => by have := h3 i; omega)
    rw [← Nat.pow_mul, show (4 + 4) * K = 64 by omega] at this
    exact this
  rw [← Nat.pow_mul, show 8 * K = 64 by omega] at l4 l5 l6
  refine ⟨_, _, _, y4, y5, y6, p1.symm, p2.symm, p3.symm, q4, q5, q6, ⟨lV1, lV2, lV3, l4, l5, l6⟩, ?_⟩
  rw [hm, ← sm_pp, ← sm_pp, ← sm_pp]
  exact sm_8 _ K hK

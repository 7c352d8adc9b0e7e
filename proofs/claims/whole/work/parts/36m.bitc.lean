theorem s_bitCount {S : CS} {x : Int64} {post : Int32 → CS → Prop} (h : post (nI (pc x)) S) : wp_J13_bitCount_95d88 S x post := by
  obtain ⟨n, hn, rfl⟩ := wb_of x
  have hb : ∀ i, n / 2 ^ i % 2 ≤ 1 := fun i => by omega
  have hz : ∀ i, 64 ≤ i → n / 2 ^ i % 2 = 0 := fun i hi => by
    rw [Nat.div_eq_of_lt (Nat.lt_of_lt_of_le hn (Nat.pow_le_pow_right (by omega) hi))]
  have hV : n = VL_ (2 ^ 1) (fun i => n / 2 ^ i % 2) (2 * 32) := V_bits 64 n hn
  have p1 := pop1 (k := 32) (by omega) hb hz
  rw [← hV, ← M5_V] at p1
  have h1 : ∀ i, pp1 (fun i => n / 2 ^ i % 2) i ≤ 2 := fun i => by unfold pp1; have := hb (2 * i); have := hb (2 * i + 1); omega
  have z1 : ∀ i, 2 * 16 ≤ i → pp1 (fun i => n / 2 ^ i % 2) i = 0 := fun i hi => by unfold pp1; rw [hz (2 * i) (by omega), hz (2 * i + 1) (by omega)]
  have p2 := pop2 (k := 16) (by omega) h1 z1
  rw [← M3_V] at p2
  have h2 : ∀ i, pp1 (pp1 (fun i => n / 2 ^ i % 2)) i ≤ 4 := fun i => by show pp1 _ (2 * i) + pp1 _ (2 * i + 1) ≤ 4; have := h1 (2 * i); have := h1 (2 * i + 1); omega
  have z2 : ∀ i, 2 * 8 ≤ i → pp1 (pp1 (fun i => n / 2 ^ i % 2)) i = 0 := fun i hi => by show pp1 _ (2 * i) + pp1 _ (2 * i + 1) = 0; rw [z1 (2 * i) (by omega), z1 (2 * i + 1) (by omega)]
  have p3 := pop3 (k := 8) (by omega) h2 z2
  rw [← MF_V] at p3
  have h3 : ∀ i, pp1 (pp1 (pp1 (fun i => n / 2 ^ i % 2))) i ≤ 8 := fun i => by show pp1 (pp1 _) (2 * i) + pp1 (pp1 _) (2 * i + 1) ≤ 8; have := h2 (2 * i); have := h2 (2 * i + 1); omega
  have z3 : ∀ i, 8 ≤ i → pp1 (pp1 (pp1 (fun i => n / 2 ^ i % 2))) i = 0 := fun i hi => by show pp1 (pp1 _) (2 * i) + pp1 (pp1 _) (2 * i + 1) = 0; rw [z2 (2 * i) (by omega), z2 (2 * i + 1) (by omega)]
  obtain ⟨y4, y5, y6, q4, q5, q6, l4, l5, l6, hm⟩ := pop4 (k := 8) (by omega) h3 z3
  have e64 : (2 ^ 8) ^ 8 = 2 ^ 64 := by decide
  rw [e64] at l4 l5 l6
  have hM5 : M5 < 2 ^ 64 := by decide
  have hM3 : M3 < 2 ^ 64 := by decide
  have hMF : MF < 2 ^ 64 := by decide
  have lV1 : VL_ (2 ^ (1 + 1)) (pp1 (fun i => n / 2 ^ i % 2)) 32 < 2 ^ 64 := by
    have := V_lt (B := 2 ^ (1 + 1)) (by omega) 32 (pp1 (fun i => n / 2 ^ i % 2)) (fun i _ => by have := h1 i; omega)
    rw [show (2 ^ (1 + 1)) ^ 32 = 2 ^ 64 by decide] at this
    exact this
  have lV2 : VL_ (2 ^ (2 + 2)) (pp1 (pp1 (fun i => n / 2 ^ i % 2))) 16 < 2 ^ 64 := by
    have := V_lt (B := 2 ^ (2 + 2)) (by omega) 16 (pp1 (pp1 (fun i => n / 2 ^ i % 2))) (fun i _ => by have := h2 i; omega)
    rw [show (2 ^ (2 + 2)) ^ 16 = 2 ^ 64 by decide] at this
    exact this
  have lV3 : VL_ (2 ^ (4 + 4)) (pp1 (pp1 (pp1 (fun i => n / 2 ^ i % 2)))) 8 < 2 ^ 64 := by
    have := V_lt (B := 2 ^ (4 + 4)) (by omega) 8 (pp1 (pp1 (pp1 (fun i => n / 2 ^ i % 2)))) (fun i _ => by have := h3 i; omega)
    rw [show (2 ^ (4 + 4)) ^ 8 = 2 ^ 64 by decide] at this
    exact this
  obtain ⟨y1, g1⟩ : ∃ z, z = VL_ (2 ^ (1 + 1)) (pp1 (fun i => n / 2 ^ i % 2)) 32 := ⟨_, rfl⟩
  obtain ⟨y2, g2⟩ : ∃ z, z = VL_ (2 ^ (2 + 2)) (pp1 (pp1 (fun i => n / 2 ^ i % 2))) 16 := ⟨_, rfl⟩
  obtain ⟨y3, g3⟩ : ∃ z, z = VL_ (2 ^ (4 + 4)) (pp1 (pp1 (pp1 (fun i => n / 2 ^ i % 2)))) 8 := ⟨_, rfl⟩
  have g1' : VL_ (2 ^ 2) (pp1 (fun i => n / 2 ^ i % 2)) (2 * 16) = y1 := g1.symm
  have g2' : VL_ (2 ^ 4) (pp1 (pp1 (fun i => n / 2 ^ i % 2))) (2 * 8) = y2 := g2.symm
  have g3' : VL_ (2 ^ 8) (pp1 (pp1 (pp1 (fun i => n / 2 ^ i % 2)))) 8 = y3 := g3.symm
  rw [← g1] at p1 lV1
  rw [g1', ← g2] at p2
  rw [← g2] at lV2
  rw [g2', ← g3] at p3
  rw [← g3] at lV3
  rw [g3'] at q4
  have hd : ∀ {a : Nat} (k : Nat), a < 2 ^ 64 → a / 2 ^ k < 2 ^ 64 := fun k ha => Nat.lt_of_le_of_lt (Nat.div_le_self _ _) ha
  unfold wp_J13_bitCount_95d88
  intro x1 e1 x2 e2 x3 e3 x4 e4 x5 e5 x6 e6
  have f1 : x1 = lN y1 := by
    rw [e1, show (1 : Int32) = nI 1 from rfl, wb_shr hn (by omega), show (6148914691236517205 : Int64) = lN M5 from rfl, wb_and (hd 1 hn) hM5, lN_sub (Nat.le_trans Nat.and_le_left (Nat.div_le_self _ _))]
    exact congrArg lN p1
  have f2 : x2 = lN y2 := by
    rw [e2, f1, show (2 : Int32) = nI 2 from rfl, wb_shr lV1 (by omega), show (3689348814741910323 : Int64) = lN M3 from rfl, wb_and (hd 2 lV1) hM3, wb_and lV1 hM3, lN_add]
    exact congrArg lN p2
  have lsum : y2 + y2 / 2 ^ 4 < 2 ^ 64 := by
    have : y2 < 2 ^ 63 := by
      rw [← p2]
      have a1 : y1 &&& M3 ≤ M3 := Nat.and_le_right
      have a2 : y1 / 2 ^ 2 &&& M3 ≤ M3 := Nat.and_le_right
      have : M3 + M3 < 2 ^ 63 := by decide
      omega
    omega
  have f3 : x3 = lN y3 := by
    rw [e3, f2, show (4 : Int32) = nI 4 from rfl, wb_shr lV2 (by omega), lN_add, show (1085102592571150095 : Int64) = lN MF from rfl, wb_and lsum hMF]
    exact congrArg lN p3
  have f4 : x4 = lN y4 := by rw [e4, f3, show (8 : Int32) = nI 8 from rfl, wb_shr lV3 (by omega), lN_add, q4]
  have f5 : x5 = lN y5 := by rw [e5, f4, show (16 : Int32) = nI 16 from rfl, wb_shr l4 (by omega), lN_add, q5]
  have f6 : x6 = lN y6 := by rw [e6, f5, show (32 : Int32) = nI 32 from rfl, wb_shr l5 (by omega), lN_add, q6]
  rw [f6, lN_i, pk_and (nI y6) (m := 127) 7 (by decide)]
  have hpc : pc (lN n) = sm (fun i => n / 2 ^ i % 2) 64 := by
    refine cnt_sm _ _ (fun i => ?_) 64
    have hl : lb (lN n) i = (decide (i < 64) && n.testBit i) := by
      unfold lb
      rw [wb_tb, BitVec.getLsbD_ofNat]
    constructor
    · intro z
      rw [hl, Bool.and_eq_true, Nat.testBit_eq_decide_div_mod_eq] at z
      exact of_decide_eq_true z.2
    · intro z
      by_cases hi : i < 64
      · rw [hl, decide_eq_true hi, Bool.true_and, Nat.testBit_eq_decide_div_mod_eq] at z
        have : ¬ n / 2 ^ i % 2 = 1 := fun q => z (decide_eq_true q)
        have := hb i
        omega
      · exact hz i (by omega)
  have hy : (nI y6).toBitVec.toNat % 2 ^ 7 = pc (lN n) := by
    have : (nI y6).toBitVec.toNat = y6 % 2 ^ 32 := rfl
    rw [this, hpc]
    have e : y6 % 2 ^ 32 % 2 ^ 7 = y6 % 128 := by omega
    rw [e, hm]
    generalize (fun i => n / 2 ^ i % 2) = b
    simp only [sm, pp1, Nat.reduceMul, Nat.reduceAdd, Nat.mul_zero, Nat.zero_add, Nat.add_assoc]
  rw [hy]
  exact h


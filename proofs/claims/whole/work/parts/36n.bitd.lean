theorem wlit5 : (6148914691236517205 : Int64) = lN M5 := by decide +kernel
theorem wlit3 : (3689348814741910323 : Int64) = lN M3 := by decide +kernel
theorem wlitF : (1085102592571150095 : Int64) = lN MF := by decide +kernel
theorem M5_lt : M5 < 2 ^ 64 := by decide
theorem M3_lt : M3 < 2 ^ 64 := by decide
theorem MF_lt : MF < 2 ^ 64 := by decide
theorem M3_2 : M3 + M3 < 2 ^ 63 := by decide
theorem pc_sm {n : Nat} (hb : ∀ i, n / 2 ^ i % 2 ≤ 1) (hz : ∀ i, 64 ≤ i → n / 2 ^ i % 2 = 0) : pc (lN n) = sm (fun i => n / 2 ^ i % 2) 64 := by
  refine cnt_sm _ _ (fun i => ?_) 64
  have hl : lb (lN n) i = (decide (i < 64) && n.testBit i) := by
    unfold lb
    rw [wb_tb, BitVec.getLsbD_ofNat]
  constructor
  · intro z
    rw [hl, Bool.and_eq_true, Nat.testBit_eq_decide_div_mod_eq] at z
    exact of_decide_eq_true z.2
  · intro z
    by_cases hi : i < 64
    · rw [hl, decide_eq_true hi, Bool.true_and, Nat.testBit_eq_decide_div_mod_eq] at z
      have : ¬ n / 2 ^ i % 2 = 1 := fun q => z (decide_eq_true q)
      have := hb i
      omega
    · exact hz i (by omega)
theorem s_bitCount {S : CS} {x : Int64} {post : Int32 → CS → Prop} (h : post (nI (pc x)) S) : wp_J13_bitCount_95d88 S x post := by
  obtain ⟨n, hn, rfl⟩ := wb_of x
  have hb : ∀ i, n / 2 ^ i % 2 ≤ 1 := fun i => by omega
  have hz : ∀ i, 64 ≤ i → n / 2 ^ i % 2 = 0 := fun i hi => by
    rw [Nat.div_eq_of_lt (Nat.lt_of_lt_of_le hn (Nat.pow_le_pow_right (by omega) hi))]
  have hpc := pc_sm hb hz
  obtain ⟨b, hbe⟩ : ∃ b : Nat → Nat, b = fun i => n / 2 ^ i % 2 := ⟨_, rfl⟩
  obtain ⟨K, hK⟩ : ∃ K : Nat, K = 8 := ⟨_, rfl⟩
  have e64 : 2 * (2 * (2 * K)) = 64 := by omega
  have hV : n = VL_ (2 ^ 1) b (2 * (2 * (2 * K))) := by
    have := V_bits (2 * (2 * (2 * K))) n (by rw [e64]; exact hn)
    rw [← hbe] at this
    rw [Nat.pow_one]
    exact this
  obtain ⟨y1, y2, y3, y4, y5, y6, p1, p2, p3, q4, q5, q6, ⟨l1, l2, l3, l4, l5, l6⟩, hm⟩ := pop_all hK hV (fun i => by rw [hbe]; exact hb i) (fun i hi => by rw [hbe]; exact hz i (by omega))
  rw [← hbe] at hpc
  rw [e64, ← hpc] at hm
  clear hpc hV hbe e64 hK
  have hd : ∀ {a : Nat} (k : Nat), a < 2 ^ 64 → a / 2 ^ k < 2 ^ 64 := fun k ha => Nat.lt_of_le_of_lt (Nat.div_le_self _ _) ha
  unfold wp_J13_bitCount_95d88
  intro x1 e1 x2 e2 x3 e3 x4 e4 x5 e5 x6 e6
  have f1 : x1 = lN y1 := by
    rw [e1, show (1 : Int32) = nI 1 from rfl, wb_shr hn (by omega), wlit5, wb_and (hd 1 hn) M5_lt, lN_sub (Nat.le_trans Nat.and_le_left (Nat.div_le_self _ _)), p1]
  have f2 : x2 = lN y2 := by
    rw [e2, f1, show (2 : Int32) = nI 2 from rfl, wb_shr l1 (by omega), wlit3, wb_and (hd 2 l1) M3_lt, wb_and l1 M3_lt, lN_add, p2]
  have lsum : y2 + y2 / 2 ^ 4 < 2 ^ 64 := by
    have a1 : y1 &&& M3 ≤ M3 := Nat.and_le_right
    have a2 : y1 / 2 ^ 2 &&& M3 ≤ M3 := Nat.and_le_right
    have a3 := M3_2
    have : y2 < 2 ^ 63 := by rw [p2]; exact Nat.lt_of_le_of_lt (Nat.add_le_add a1 a2) a3
    omega
  have f3 : x3 = lN y3 := by
    rw [e3, f2, show (4 : Int32) = nI 4 from rfl, wb_shr l2 (by omega), lN_add, wlitF, wb_and lsum MF_lt, p3]
  have f4 : x4 = lN y4 := by rw [e4, f3, show (8 : Int32) = nI 8 from rfl, wb_shr l3 (by omega), lN_add, q4]
  have f5 : x5 = lN y5 := by rw [e5, f4, show (16 : Int32) = nI 16 from rfl, wb_shr l4 (by omega), lN_add, q5]
  have f6 : x6 = lN y6 := by rw [e6, f5, show (32 : Int32) = nI 32 from rfl, wb_shr l5 (by omega), lN_add, q6]
  rw [f6, lN_i, pk_and (nI y6) (m := 127) 7 (by decide)]
  have hy : (nI y6).toBitVec.toNat % 2 ^ 7 = pc (lN n) := by
    have : (nI y6).toBitVec.toNat = y6 % 2 ^ 32 := rfl
    rw [this, ← hm]
    omega
  rw [hy]
  exact h

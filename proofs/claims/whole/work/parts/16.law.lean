
/-! THE CLAIM OUT OF ONE WALK OF THE LAW'S BODY. Your part is whole_start (and what it stands on); all else here is the same for every law, but numbers. -/
def R_law : String := "LoanWaysLaw"
def lw_P (b : Addr) (xs : List Int32) (args : Array Value) (s : State) : Prop := args = #[.ref b] ∧ s.IntsAt b xs ∧ xs.length ≤ 2560 ∧ (Jvm.Cond.and given_1 narrow_1).before args s = true
def lw_Q (_ : Array Value) (s : State) (o : Outcome) (t : State) : Prop := o = .returned (some (.int 1)) ∧ Framed s o t [] 600000 7302250
def lw_Z (below : List Frame) (a : Array Value) (s : State) : State → Prop := fun t => ∃ o, t.status = .running ∧ Ended t below o ∧ lw_Q a s o t
/-- the law's own end, with 1 on the stack, nothing written that was there before, its room as the claim has it -/
theorem lw_ret {p : Program} {l : Launch} {e : Env} {s : State} {m : MethodId} {below : List Frame} {meth : Method} {c : Code} {b : Nat} (hx : p.tables.exec = Jvm.exec) (hb : c.code = code) (hr : meth.sig.returnType = ret) (hlocks : meth.locks = false) {pc : Nat} {H : Heap} {ls : Array Slot} (hdg : decode code pc = .ok (.ireturn, 1)) : W p l e room_1 s m #[Value.ref b] below meth c H [] 600000 7302250 (lw_Z below #[Value.ref b] s) (F0 m pc ls [.int 1]) := by
  intro T hT X
  obtain ⟨fs, hret, hrun, hended, hW, hframe⟩ := X.leave (v := some (.int 1)) (hlocks := hlocks) (fun h => by rw [hr] at h; cases h)
  have hmeth' : T.vm.method? m = some meth := X.method'
  refine ⟨T.setFrames fs, ?_, .returned (some (.int 1)), hrun, hended, rfl, ⟨_, rfl⟩, hW, hframe⟩
  jvm_step X.here [X.here.top, hx, hb, hdg, hmeth', hr, ret, narrow_b1]
  (try refine ⟨rfl, ?_⟩); (try refine ⟨rfl, ?_⟩)
  first | (intro acts; rw [hret _ acts rfl rfl rfl]) | rw [hret _ _ rfl rfl rfl]
  exact Steps.refl _
/-- what holds at the law's entry: the machine, the code, the tables' words (any of lw_tbl by 'hts w (by decide +kernel)'), the script of L ints xs at the cell b, what the Statement gives of the start (any of its parts by flat_of_before) -/
def lw_At (p : Program) (s : State) (m : MethodId) (meth : Method) (c : Code) (b L : Nat) (xs : Nat → Int32) : Prop :=
  p.tables.exec = Jvm.exec ∧ c.code = code ∧ meth.sig.returnType = ret ∧ c.maxLocals = 4 ∧ s.vm.findClass R_law = some m.cls ∧ (∀ w ∈ lw_tbl, w.before #[Value.ref b] s = true) ∧ va_X b L xs s s.heap ∧ b < s.heap.size ∧ meth.locks = false ∧ (Jvm.Cond.and given_1 narrow_1).before #[Value.ref b] s = true

def D2 (A : Nat → Prop) (w1 w2 : va_W) : Prop := va_D A w1 ∧ va_D A w2 ∧ ∀ (i j : Nat) (p q : Nat × va_E), w1[i]? = some p → w2[j]? = some q → p.1 ≠ q.1
theorem D2.swap {A : Nat → Prop} {w1 w2 : va_W} (h : D2 A w1 w2) : D2 A w2 w1 := ⟨h.2.1, h.1, fun i j p q hi hj e => h.2.2 j i q p hj hi e.symm⟩
section LC
variable {p : Program} {l : Launch} {e : Env} {R : Room} {s : State} {m : MethodId} {args : Array Value} {below : List Frame} {meth : Method} {c : Code} {H : Heap} {locs : List Loc} {cells slots : Nat} {Q : State → Prop}
variable {σ : Type} {WF : σ → va_W} {D : va_G} {cI cJ cZ : ClassId} {cc : ByteArray} {nL : Nat} {own : String} {A : Nat → Prop} {pc : Nat} {ls : Array Slot} {S : σ} {st : List Value} {w2 : va_W}
variable {y : MethodName} {cc2 : ByteArray} {maxL2 n index ci k : Nat} {ret2 : Option FieldType} {rm2 : Room} {b : Nat} {As rest : List Value} {q : vw_C} {fs : List Value}
theorem lcI {post2 : Int32 → σ → Prop} (hx : p.tables.exec = Jvm.exec) (hb : c.code = cc) (hml : c.maxLocals = nL) (hown : s.vm.findClass own = some m.cls) (hts : ∀ w ∈ lw_tbl, w.before args s = true) (hK : Kn D cI cJ cZ s) (hA : ∀ q, s.heap.size ≤ q → A q) (hM : CI WF D cI cJ cZ l y (.code y cc2 maxL2 ret2 :: gt) rm2 S (.ref b :: As) post2) (hC : Cal y cc2 maxL2 ret2 n) (hi : Cond.instanceMethod y ∈ gt) (hsel : Cond.selects y.cls y y ∈ gt) (hlk : Cond.methodLink own index y ∈ gt) (hci : vwCl[ci]? = some q) (hq : q.1 = y.cls) (he : (WF S)[k]? = some (b, .inr (ci, fs))) (hn : As.length = n) (hls : ls.size = nL) (hst : st = As.reverse ++ .ref b :: rest) (hcat : (rest.map fun v => v.category).sum ≤ 8) (hR : rm2.frames + 1 ≤ R.frames ∧ 8 + (maxL2 + 11) + rm2.locals ≤ R.locals) (hrc : rm2.cells = 0) (hrs : rm2.slots = 0) (hf : cells ≤ R.cells ∧ slots ≤ R.slots) (hdg : decode cc pc = .ok (.invokevirtual index, 3)) (hP : va_P D vwCl (WF S) H) (hP2 : va_P D vwCl w2 H) (hD : D2 A (WF S) w2) (hS : va_S A s.heap H locs)
    (kk : ∀ (r : Int32) (S' : σ) (H1 : Heap) (locs1 : List Loc), post2 r S' → va_P D vwCl (WF S') H1 → va_P D vwCl w2 H1 → D2 A (WF S') w2 → va_S A s.heap H1 locs1 → W p l e R s m args below meth c H1 locs1 cells slots Q (F0 m (pc + 3) ls (.int r :: rest))) : W p l e R s m args below meth c H locs cells slots Q (F0 m pc ls st) := by
  have hF := free_all hD.1 hS hA
  have hout : ∀ (j : Nat) (q : Nat × va_E), w2[j]? = some q → ¬ va_A (WF S) H.size q.1 := fun j q hj => by
    rintro (⟨i, e, hi⟩ | hlt)
    · exact hD.2.2 i j _ _ hi hj rfl
    · exact absurd (hP2 j q hj).lt (Nat.not_lt.mpr hlt)
  refine va_calli (va_runV (C := y.cls) (As := As) (rest := rest) ⟨hx, hb, hml, hown, hts⟩ (hM H.size) (cwV n hts (good_V (fun _ h => gt_l h) hlk hi hsel hC.1 hC.2.1) rfl hrc hrs ⟨rfl, hC.2.2⟩ hR) ⟨PreW.blind, (by rw [← hq]; exact va_recv hK.1 hP hci he), fun U hU hW => ⟨rfl, by rw [hU], by rw [hU]; exact hP, hK.warm hW, hD.1.weaken (fun _ _ _ _ => trivial)⟩⟩ rfl hn hls hst (lv_room hcat) hdg hf) hS (fun q _ h => hF q h) hF (fun r S' t H1 locs1 ht hvm hp hB hz1 hk1 hS1 => ?_)
  exact kk r S' H1 locs1 hp (by rw [← ht]; exact hB.1) (hP2.kept (fun j q hj => hk1 q.1 (hP2 j q hj).lt (hout j q hj))) ⟨hB.2.weaken (fun _ _ _ h => hF _ h), hD.2.1, fun i j p q hi hj e => hout j q hj (by rw [← e]; exact hB.2.2 i p hi)⟩ hS1
end LC
def StepsOK (Rel : CS → MS → Prop) : Prop :=
  (∀ (S : CS) (M : MS) (x1 : Int32) (x2 : Int32), Rel S M → wp_X6_variable S x1 x2 (fun r S' => wp_X7_variable M x1 x2 (fun r' M' => r = r' ∧ Rel S' M'))) ∧
  (∀ (S : CS) (M : MS) (x1 : Int32) (x2 : Int32), Rel S M → isb x2 → wp_X6_begins S x1 x2 (fun r S' => wp_X7_begins M x1 x2 (fun r' M' => r = r' ∧ Rel S' M'))) ∧
  (∀ (S : CS) (M : MS) (x1 : Int32) (x2 : Int32) (x3 : Int32) (x4 : Int32), Rel S M → wp_X6_act S x1 x2 x3 x4 (fun r S' => wp_X7_act M x1 x2 x3 x4 (fun r' M' => r = r' ∧ Rel S' M'))) ∧
  (∀ (S : CS) (M : MS) (x1 : Int32) (x2 : Int32) (x3 : Int32) (x4 : Int32), Rel S M → wp_X6_lend S x1 x2 x3 x4 (fun r S' => wp_X7_lend M x1 x2 x3 x4 (fun r' M' => r = r' ∧ Rel S' M'))) ∧
  (∀ (S : CS) (M : MS) (x1 : Int32) (x2 : Int32) (x3 : Int32), Rel S M → wp_X6_copy S x1 x2 x3 (fun r S' => wp_X7_copy M x1 x2 x3 (fun r' M' => r = r' ∧ Rel S' M'))) ∧
  (∀ (S : CS) (M : MS) (x1 : Int32) (x2 : Int32) (x3 : Int32), Rel S M → isb x3 → wp_X6_next S x1 x2 x3 (fun r S' => wp_X7_next M x1 x2 x3 (fun r' M' => r = r' ∧ Rel S' M'))) ∧
  (∀ (S : CS) (M : MS), Rel S M → wp_X6_judge S (fun r S' => wp_X7_judge M (fun r' M' => r = r' ∧ Rel S' M'))) ∧
  (∀ (S : CS) (M : MS) (x1 : Int32), Rel S M → wp_X6_fault S x1 (fun r S' => wp_X7_fault M x1 (fun r' M' => r = r' ∧ Rel S' M'))) ∧
  (∀ (S : CS) (M : MS) (x1 : Int32), Rel S M → wp_X6_comes S x1 (fun r S' => wp_X7_comes M x1 (fun r' M' => r = r' ∧ Rel S' M'))) ∧
  (∀ (S : CS) (M : MS) (x1 : Int32) (x2 : Int32) (x3 : Int32), Rel S M → wp_X6_held S x1 x2 x3 (fun r S' => wp_X7_held M x1 x2 x3 (fun r' M' => r = r' ∧ Rel S' M'))) ∧
  (∀ (S : CS) (M : MS) (x1 : Int32) (x2 : Int32) (x3 : Int32), Rel S M → wp_X6_holds S x1 x2 x3 (fun r S' => wp_X7_holds M x1 x2 x3 (fun r' M' => r = r' ∧ Rel S' M'))) ∧
  (∀ (S : CS) (M : MS) (x1 : Int32) (x2 : Int32), Rel S M → wp_X6_used S x1 x2 (fun r S' => wp_X7_used M x1 x2 (fun r' M' => r = r' ∧ Rel S' M'))) ∧
  (∀ (S : CS) (M : MS) (x1 : Int32) (x2 : Int32), Rel S M → wp_X6_force S x1 x2 (fun r S' => wp_X7_force M x1 x2 (fun r' M' => r = r' ∧ Rel S' M'))) ∧
  (∀ (S : CS) (M : MS) (x1 : Int32), Rel S M → wp_X6_count S x1 (fun r S' => wp_X7_count M x1 (fun r' M' => r = r' ∧ Rel S' M')))
def S0 : CS := ((fun _ => 0, fun _ => 0, 0, 0), (fun _ => 0, fun _ => 0, fun _ => 0, fun _ => 0, fun _ => 0, fun _ => 0, fun _ => 0, fl_I 150 (-1) (fun _ => 0), fl_I 150 (-1) (fun _ => 0), 0), (fun _ => 0, fun _ => 0, fun _ => 0, fun _ => 0, fun _ => 0, 0), (fun _ => 0, fun _ => 0, fun _ => 0), (fun _ => 0, fun _ => 0, fun _ => 0, fun _ => 0, fun _ => 0, fun _ => 0, 0, 0), (0, 0, 0))
def M0 : MS := ((0, fun _ => 0, fun _ => 0, fun _ => 0, fun _ => 0, fun _ => 0, fun _ => 0, fun _ => 0, fl_I 600 (-1) (fun _ => 0)), (fun _ => 0, fun _ => 0, fun _ => 0, fun _ => 0, fun _ => 0, fun _ => 0, fun _ => 0), (fun _ => 0, 0, fun _ => 0), (1, 0, 0, 0, 0, 0))
theorem tbl_inC {p : Program} {l : Launch} {e : Env} {R : Room} {s : State} {m : MethodId} {args : Array Value} {below : List Frame} {meth : Method} {c : Code} {H : Heap} {locs : List Loc} {cells slots : Nat} {Q : State → Prop} {cc : ByteArray} {pc : Nat} {ls : Array Slot} {rest : List Value} {dflt lo hi : Int} {offs : Array Int} {len : Nat} {x v : Int32} {off : Int} {tgt : Nat} (hexec : p.tables.exec = Jvm.exec) (hb : c.code = cc) (hdg : decode cc pc = .ok (.tableswitch dflt lo hi offs, len)) (e1 : x = v) (h1 : ¬ v.toInt < lo) (h2 : ¬ hi < v.toInt) (ho : offs[(v.toInt - lo).toNat]? = some off) (ht : (pc : Int) + off = (tgt : Int)) (k : W p l e R s m args below meth c H locs cells slots Q (F0 m tgt ls rest)) : W p l e R s m args below meth c H locs cells slots Q (F0 m pc ls (.int x :: rest)) := by
  subst e1
  exact lv_tableIn hexec hb hdg h1 h2 ho ht k
set_option maxHeartbeats 8000000 in
set_option maxRecDepth 100000 in
theorem law_loop {Rel : CS → MS → Prop} (hst : StepsOK Rel) {p : Program} {l : Launch} {e : Env} {s : State} {m : MethodId} {below : List Frame} {meth : Method} {c : Code} {D : va_G} {cI cJ cZ : ClassId} {ad am : Nat → Nat} {b L : Nat} {xs : Nat → Int32} (hL : L ≤ 2560) (C0 : lw_At p s m meth c b L xs) (hK : Kn D cI cJ cZ s) :
    ∀ (n k : Nat) (S : CS) (M : MS) (H : Heap) (locs : List Loc) (ls : Array Slot), 5 * k ≤ L → L < 5 * k + n → Rel S M → va_P D vwCl (WC ad cI cJ cZ S) H → va_P D vwCl (WM am cI cJ cZ M) H → D2 (fun q : Nat => s.heap.size ≤ q) (WC ad cI cJ cZ S) (WM am cI cJ cZ M) → va_S (fun q : Nat => s.heap.size ≤ q) s.heap H locs → lv_has ls 4 [(0, .ref b), (1, .ref (ad 0)), (2, .ref (am 0)), (3, .int (nI (5 * k)))] → W p l e room_1 s m #[Value.ref b] below meth c H locs 600000 7302250 (lw_Z below #[Value.ref b] s) (F0 m 18 ls []) := by
  obtain ⟨hx, hb, hr, hml, hown, hts, hX, hbl, hlocks, hgv⟩ := C0
  have hA : ∀ q : Nat, s.heap.size ≤ q → (fun q : Nat => s.heap.size ≤ q) q := fun _ h => h
  have hbA : ¬ (fun q : Nat => s.heap.size ≤ q) b := Nat.not_le.mpr hbl
  intro n
  induction n with
  | zero =>
    intro k S M H locs ls h1 h2
    exact absurd h2 (by omega)
  | succ n ih =>
    intro k S M H locs ls hk hn hRel hP hP2 hD hS hl
    obtain ⟨x3, ex3⟩ : ∃ z, z = nI (5 * k) := ⟨_, rfl⟩
    rw [← ex3] at hl
    refine lv_iload_n hx hb dL_law_18 rfl (lv_at hl 3 rfl) ?_
    refine lv_aload_n hx hb dL_law_19 rfl (lv_at hl 0 rfl) ?_
    refine va_slen hx hb hX hbl hbA hS dL_law_20 ?_
    refine lv_iconst (v := 5) hx hb dL_law_21 (by decide) ?_
    refine lv_isub hx hb dL_law_22 ?_
    refine lv_icmp_gt (tgt := 634) hx hb dL_law_23 (by decide) (fun c23 => ?_) (fun c23 => ?_)
    · refine lv_iconst (v := 1) hx hb dL_law_634 (by decide) ?_
      refine va_forget (fun q hq => hS.2.2 q hq) ?_
      exact lw_ret hx hb hr hlocks dL_law_635
    · have hlt : 5 * k + 5 ≤ L := by
        have e1 : (Int32.ofNat L - 5).toInt = (L : Int) - 5 := pk_sub_toInt (a := L) (b := 5) (by omega) (by omega)
        have e2 : x3.toInt = ((5 * k : Nat) : Int) := by rw [ex3]; exact nI_toInt (by omega)
        have e3 : ¬ (Int32.ofNat L - 5).toInt < x3.toInt := fun h => c23 (Int32.lt_iff_toInt_lt.mpr h)
        rw [e1, e2] at e3
        omega
      have h_0 : vp_in x3 L := by rw [ex3]; exact vp_in_nI (by omega) (by omega)
      have h_1 : vp_in (x3 + (1 : Int32)) L := by rw [ex3]; exact (nI_add (5 * k) 1).symm ▸ vp_in_nI (n := 5 * k + 1) (by omega) (by omega)
      have h_2 : vp_in (x3 + (2 : Int32)) L := by rw [ex3]; exact (nI_add (5 * k) 2).symm ▸ vp_in_nI (n := 5 * k + 2) (by omega) (by omega)
      have h_3 : vp_in (x3 + (3 : Int32)) L := by rw [ex3]; exact (nI_add (5 * k) 3).symm ▸ vp_in_nI (n := 5 * k + 3) (by omega) (by omega)
      have h_4 : vp_in (x3 + (4 : Int32)) L := by rw [ex3]; exact (nI_add (5 * k) 4).symm ▸ vp_in_nI (n := 5 * k + 4) (by omega) (by omega)
      refine lv_aload_n hx hb dL_law_26 rfl (lv_at hl 0 rfl) ?_
      refine lv_iload_n hx hb dL_law_27 rfl (lv_at hl 3 rfl) ?_
      refine va_sld hx hb hX hbl hbA hS h_0 dL_law_28 ?_
      refine lv_bipush (v := 15) hx hb dL_law_29 (by decide) ?_
      refine lv_iand hx hb dL_law_31 ?_
      by_cases ho : (xs x3.toNatClampNeg &&& (15 : Int32)).toInt < 0 ∨ 13 < (xs x3.toNatClampNeg &&& (15 : Int32)).toInt
      · refine lv_tableOut (tgt := 628) hx hb dL_law_32 ho (by decide) ?_
        refine lv_iinc (v := nI (5 * (k + 1))) (lv' := [(3, .int (nI (5 * (k + 1)))), (0, .ref b), (1, .ref (ad 0)), (2, .ref (am 0))]) hx hb dL_law_628 hl (k := 3) rfl (by rw [ex3]; exact nI_add (5 * k) 5) (by decide) rfl (fun ls hl => ?_)
        refine lv_goto (tgt := 18) hx hb dL_law_631 (by decide) ?_
        exact ih (k + 1) S M H locs ls (by omega) (by omega) hRel hP hP2 hD hS (lv_sub hl [1, 2, 3, 0] rfl)
      rcases sw_14 ho with ho | ho | ho | ho | ho | ho | ho | ho | ho | ho | ho | ho | ho | ho
      · refine tbl_inC (v := 0) (off := 72) (tgt := 104) hx hb dL_law_32 ho (by decide) (by decide) (by decide) (by decide) ?_
        refine lv_aload_n hx hb dL_law_104 rfl (lv_at hl 1 rfl) ?_
        refine lv_aload_n hx hb dL_law_105 rfl (lv_at hl 0 rfl) ?_
        refine lv_iload_n hx hb dL_law_106 rfl (lv_at hl 3 rfl) ?_
        refine lv_iconst (v := 1) hx hb dL_law_107 (by decide) ?_
        refine lv_iadd hx hb dL_law_108 ?_
        refine va_sld hx hb hX hbl hbA hS h_1 dL_law_109 ?_
        refine lv_aload_n hx hb dL_law_110 rfl (lv_at hl 0 rfl) ?_
        refine lv_iload_n hx hb dL_law_111 rfl (lv_at hl 3 rfl) ?_
        refine lv_iconst (v := 2) hx hb dL_law_112 (by decide) ?_
        refine lv_iadd hx hb dL_law_113 ?_
        refine va_sld hx hb hX hbl hbA hS h_2 dL_law_114 ?_
        have h := hst.1 S M (xs (x3 + (1 : Int32)).toNatClampNeg) (xs (x3 + (2 : Int32)).toNatClampNeg) hRel 
        refine lcI (As := [.int (xs (x3 + (1 : Int32)).toNatClampNeg), .int (xs (x3 + (2 : Int32)).toNatClampNeg)]) (rest := []) (ci := 5) (k := 0) hx hb hml hown hts hK hA (m_X6_variable l D ad cI cJ cZ S (xs (x3 + (1 : Int32)).toNatClampNeg) (xs (x3 + (2 : Int32)).toNatClampNeg) _ h) cal_X6_variable kw_639 kw_640 kw_641 rfl rfl rfl rfl hl.1 rfl (Nat.le_of_ble_eq_true rfl) ⟨Nat.le_of_ble_eq_true rfl, Nat.le_of_ble_eq_true rfl⟩ rfl rfl ⟨Nat.le_of_ble_eq_true rfl, Nat.le_of_ble_eq_true rfl⟩ dL_law_115 hP hP2 hD hS (fun rc S' H locs h hP hP2 hD hS => ?_)
        refine lv_aload_n hx hb dL_law_118 rfl (lv_at hl 2 rfl) ?_
        refine lv_aload_n hx hb dL_law_119 rfl (lv_at hl 0 rfl) ?_
        refine lv_iload_n hx hb dL_law_120 rfl (lv_at hl 3 rfl) ?_
        refine lv_iconst (v := 1) hx hb dL_law_121 (by decide) ?_
        refine lv_iadd hx hb dL_law_122 ?_
        refine va_sld hx hb hX hbl hbA hS h_1 dL_law_123 ?_
        refine lv_aload_n hx hb dL_law_124 rfl (lv_at hl 0 rfl) ?_
        refine lv_iload_n hx hb dL_law_125 rfl (lv_at hl 3 rfl) ?_
        refine lv_iconst (v := 2) hx hb dL_law_126 (by decide) ?_
        refine lv_iadd hx hb dL_law_127 ?_
        refine va_sld hx hb hX hbl hbA hS h_2 dL_law_128 ?_
        refine lcI (As := [.int (xs (x3 + (1 : Int32)).toNatClampNeg), .int (xs (x3 + (2 : Int32)).toNatClampNeg)]) (rest := [.int rc]) (ci := 6) (k := 0) hx hb hml hown hts hK hA (m_X7_variable l D am cI cJ cZ M (xs (x3 + (1 : Int32)).toNatClampNeg) (xs (x3 + (2 : Int32)).toNatClampNeg) _ h) cal_X7_variable kw_642 kw_643 kw_644 rfl rfl rfl rfl hl.1 rfl (Nat.le_of_ble_eq_true rfl) ⟨Nat.le_of_ble_eq_true rfl, Nat.le_of_ble_eq_true rfl⟩ rfl rfl ⟨Nat.le_of_ble_eq_true rfl, Nat.le_of_ble_eq_true rfl⟩ dL_law_129 hP2 hP hD.swap hS (fun rm M' H locs h hP2 hP hD hS => ?_)
        replace hD := hD.swap
        refine lv_icmp_eq (tgt := 628) hx hb dL_law_132 (by decide) (fun cq => ?_) (fun cq => ?_)
        · have hRel := h.2
          refine lv_iinc (v := nI (5 * (k + 1))) (lv' := [(3, .int (nI (5 * (k + 1)))), (0, .ref b), (1, .ref (ad 0)), (2, .ref (am 0))]) hx hb dL_law_628 hl (k := 3) rfl (by rw [ex3]; exact nI_add (5 * k) 5) (by decide) rfl (fun ls hl => ?_)
          refine lv_goto (tgt := 18) hx hb dL_law_631 (by decide) ?_
          exact ih (k + 1) S' M' H locs ls (by omega) (by omega) hRel hP hP2 hD hS (lv_sub hl [1, 2, 3, 0] rfl)
        · exact absurd h.1 cq
      · refine tbl_inC (v := 1) (off := 105) (tgt := 137) hx hb dL_law_32 ho (by decide) (by decide) (by decide) (by decide) ?_
        refine lv_aload_n hx hb dL_law_137 rfl (lv_at hl 1 rfl) ?_
        refine lv_aload_n hx hb dL_law_138 rfl (lv_at hl 0 rfl) ?_
        refine lv_iload_n hx hb dL_law_139 rfl (lv_at hl 3 rfl) ?_
        refine lv_iconst (v := 1) hx hb dL_law_140 (by decide) ?_
        refine lv_iadd hx hb dL_law_141 ?_
        refine va_sld hx hb hX hbl hbA hS h_1 dL_law_142 ?_
        refine lv_aload_n hx hb dL_law_143 rfl (lv_at hl 0 rfl) ?_
        refine lv_iload_n hx hb dL_law_144 rfl (lv_at hl 3 rfl) ?_
        refine lv_iconst (v := 2) hx hb dL_law_145 (by decide) ?_
        refine lv_iadd hx hb dL_law_146 ?_
        refine va_sld hx hb hX hbl hbA hS h_2 dL_law_147 ?_
        refine lv_if_eq (tgt := 155) hx hb dL_law_148 (by decide) (fun c148 => ?_) (fun c148 => ?_)
        · refine lv_iconst (v := 0) hx hb dL_law_155 (by decide) ?_
          have h := hst.2.1 S M (xs (x3 + (1 : Int32)).toNatClampNeg) (0 : Int32) hRel (Or.inl rfl) 
          refine lcI (As := [.int (xs (x3 + (1 : Int32)).toNatClampNeg), .int (0 : Int32)]) (rest := []) (ci := 5) (k := 0) hx hb hml hown hts hK hA (m_X6_begins l D ad cI cJ cZ S (xs (x3 + (1 : Int32)).toNatClampNeg) (0 : Int32) _ h) cal_X6_begins kw_645 kw_646 kw_647 rfl rfl rfl rfl hl.1 rfl (Nat.le_of_ble_eq_true rfl) ⟨Nat.le_of_ble_eq_true rfl, Nat.le_of_ble_eq_true rfl⟩ rfl rfl ⟨Nat.le_of_ble_eq_true rfl, Nat.le_of_ble_eq_true rfl⟩ dL_law_156 hP hP2 hD hS (fun rc S' H locs h hP hP2 hD hS => ?_)
          refine lv_aload_n hx hb dL_law_159 rfl (lv_at hl 2 rfl) ?_
          refine lv_aload_n hx hb dL_law_160 rfl (lv_at hl 0 rfl) ?_
          refine lv_iload_n hx hb dL_law_161 rfl (lv_at hl 3 rfl) ?_
          refine lv_iconst (v := 1) hx hb dL_law_162 (by decide) ?_
          refine lv_iadd hx hb dL_law_163 ?_
          refine va_sld hx hb hX hbl hbA hS h_1 dL_law_164 ?_
          refine lv_aload_n hx hb dL_law_165 rfl (lv_at hl 0 rfl) ?_
          refine lv_iload_n hx hb dL_law_166 rfl (lv_at hl 3 rfl) ?_
          refine lv_iconst (v := 2) hx hb dL_law_167 (by decide) ?_
          refine lv_iadd hx hb dL_law_168 ?_
          refine va_sld hx hb hX hbl hbA hS h_2 dL_law_169 ?_
          refine lv_if_eq (tgt := 177) hx hb dL_law_170 (by decide) (fun c170 => ?_) (fun c170 => ?_)
          · refine lv_iconst (v := 0) hx hb dL_law_177 (by decide) ?_
            refine lcI (As := [.int (xs (x3 + (1 : Int32)).toNatClampNeg), .int (0 : Int32)]) (rest := [.int rc]) (ci := 6) (k := 0) hx hb hml hown hts hK hA (m_X7_begins l D am cI cJ cZ M (xs (x3 + (1 : Int32)).toNatClampNeg) (0 : Int32) _ h) cal_X7_begins kw_648 kw_649 kw_650 rfl rfl rfl rfl hl.1 rfl (Nat.le_of_ble_eq_true rfl) ⟨Nat.le_of_ble_eq_true rfl, Nat.le_of_ble_eq_true rfl⟩ rfl rfl ⟨Nat.le_of_ble_eq_true rfl, Nat.le_of_ble_eq_true rfl⟩ dL_law_178 hP2 hP hD.swap hS (fun rm M' H locs h hP2 hP hD hS => ?_)
            replace hD := hD.swap
            refine lv_icmp_eq (tgt := 628) hx hb dL_law_181 (by decide) (fun cq => ?_) (fun cq => ?_)
            · have hRel := h.2
              refine lv_iinc (v := nI (5 * (k + 1))) (lv' := [(3, .int (nI (5 * (k + 1)))), (0, .ref b), (1, .ref (ad 0)), (2, .ref (am 0))]) hx hb dL_law_628 hl (k := 3) rfl (by rw [ex3]; exact nI_add (5 * k) 5) (by decide) rfl (fun ls hl => ?_)
              refine lv_goto (tgt := 18) hx hb dL_law_631 (by decide) ?_
              exact ih (k + 1) S' M' H locs ls (by omega) (by omega) hRel hP hP2 hD hS (lv_sub hl [1, 2, 3, 0] rfl)
            · exact absurd h.1 cq
          · exact absurd c148 c170
        · refine lv_iconst (v := 1) hx hb dL_law_151 (by decide) ?_
          refine lv_goto (tgt := 156) hx hb dL_law_152 (by decide) ?_
          have h := hst.2.1 S M (xs (x3 + (1 : Int32)).toNatClampNeg) (1 : Int32) hRel (Or.inr rfl) 
          refine lcI (As := [.int (xs (x3 + (1 : Int32)).toNatClampNeg), .int (1 : Int32)]) (rest := []) (ci := 5) (k := 0) hx hb hml hown hts hK hA (m_X6_begins l D ad cI cJ cZ S (xs (x3 + (1 : Int32)).toNatClampNeg) (1 : Int32) _ h) cal_X6_begins kw_645 kw_646 kw_647 rfl rfl rfl rfl hl.1 rfl (Nat.le_of_ble_eq_true rfl) ⟨Nat.le_of_ble_eq_true rfl, Nat.le_of_ble_eq_true rfl⟩ rfl rfl ⟨Nat.le_of_ble_eq_true rfl, Nat.le_of_ble_eq_true rfl⟩ dL_law_156 hP hP2 hD hS (fun rc S' H locs h hP hP2 hD hS => ?_)
          refine lv_aload_n hx hb dL_law_159 rfl (lv_at hl 2 rfl) ?_
          refine lv_aload_n hx hb dL_law_160 rfl (lv_at hl 0 rfl) ?_
          refine lv_iload_n hx hb dL_law_161 rfl (lv_at hl 3 rfl) ?_
          refine lv_iconst (v := 1) hx hb dL_law_162 (by decide) ?_
          refine lv_iadd hx hb dL_law_163 ?_
          refine va_sld hx hb hX hbl hbA hS h_1 dL_law_164 ?_
          refine lv_aload_n hx hb dL_law_165 rfl (lv_at hl 0 rfl) ?_
          refine lv_iload_n hx hb dL_law_166 rfl (lv_at hl 3 rfl) ?_
          refine lv_iconst (v := 2) hx hb dL_law_167 (by decide) ?_
          refine lv_iadd hx hb dL_law_168 ?_
          refine va_sld hx hb hX hbl hbA hS h_2 dL_law_169 ?_
          refine lv_if_eq (tgt := 177) hx hb dL_law_170 (by decide) (fun c170 => ?_) (fun c170 => ?_)
          · exact absurd c170 c148
          · refine lv_iconst (v := 1) hx hb dL_law_173 (by decide) ?_
            refine lv_goto (tgt := 178) hx hb dL_law_174 (by decide) ?_
            refine lcI (As := [.int (xs (x3 + (1 : Int32)).toNatClampNeg), .int (1 : Int32)]) (rest := [.int rc]) (ci := 6) (k := 0) hx hb hml hown hts hK hA (m_X7_begins l D am cI cJ cZ M (xs (x3 + (1 : Int32)).toNatClampNeg) (1 : Int32) _ h) cal_X7_begins kw_648 kw_649 kw_650 rfl rfl rfl rfl hl.1 rfl (Nat.le_of_ble_eq_true rfl) ⟨Nat.le_of_ble_eq_true rfl, Nat.le_of_ble_eq_true rfl⟩ rfl rfl ⟨Nat.le_of_ble_eq_true rfl, Nat.le_of_ble_eq_true rfl⟩ dL_law_178 hP2 hP hD.swap hS (fun rm M' H locs h hP2 hP hD hS => ?_)
            replace hD := hD.swap
            refine lv_icmp_eq (tgt := 628) hx hb dL_law_181 (by decide) (fun cq => ?_) (fun cq => ?_)
            · have hRel := h.2
              refine lv_iinc (v := nI (5 * (k + 1))) (lv' := [(3, .int (nI (5 * (k + 1)))), (0, .ref b), (1, .ref (ad 0)), (2, .ref (am 0))]) hx hb dL_law_628 hl (k := 3) rfl (by rw [ex3]; exact nI_add (5 * k) 5) (by decide) rfl (fun ls hl => ?_)
              refine lv_goto (tgt := 18) hx hb dL_law_631 (by decide) ?_
              exact ih (k + 1) S' M' H locs ls (by omega) (by omega) hRel hP hP2 hD hS (lv_sub hl [1, 2, 3, 0] rfl)
            · exact absurd h.1 cq
      · refine tbl_inC (v := 2) (off := 154) (tgt := 186) hx hb dL_law_32 ho (by decide) (by decide) (by decide) (by decide) ?_
        refine lv_aload_n hx hb dL_law_186 rfl (lv_at hl 1 rfl) ?_
        refine lv_aload_n hx hb dL_law_187 rfl (lv_at hl 0 rfl) ?_
        refine lv_iload_n hx hb dL_law_188 rfl (lv_at hl 3 rfl) ?_
        refine lv_iconst (v := 1) hx hb dL_law_189 (by decide) ?_
        refine lv_iadd hx hb dL_law_190 ?_
        refine va_sld hx hb hX hbl hbA hS h_1 dL_law_191 ?_
        refine lv_aload_n hx hb dL_law_192 rfl (lv_at hl 0 rfl) ?_
        refine lv_iload_n hx hb dL_law_193 rfl (lv_at hl 3 rfl) ?_
        refine lv_iconst (v := 2) hx hb dL_law_194 (by decide) ?_
        refine lv_iadd hx hb dL_law_195 ?_
        refine va_sld hx hb hX hbl hbA hS h_2 dL_law_196 ?_
        refine lv_aload_n hx hb dL_law_197 rfl (lv_at hl 0 rfl) ?_
        refine lv_iload_n hx hb dL_law_198 rfl (lv_at hl 3 rfl) ?_
        refine lv_iconst (v := 3) hx hb dL_law_199 (by decide) ?_
        refine lv_iadd hx hb dL_law_200 ?_
        refine va_sld hx hb hX hbl hbA hS h_3 dL_law_201 ?_
        refine lv_aload_n hx hb dL_law_202 rfl (lv_at hl 0 rfl) ?_
        refine lv_iload_n hx hb dL_law_203 rfl (lv_at hl 3 rfl) ?_
        refine lv_iconst (v := 4) hx hb dL_law_204 (by decide) ?_
        refine lv_iadd hx hb dL_law_205 ?_
        refine va_sld hx hb hX hbl hbA hS h_4 dL_law_206 ?_
        have h := hst.2.2.1 S M (xs (x3 + (1 : Int32)).toNatClampNeg) (xs (x3 + (2 : Int32)).toNatClampNeg) (xs (x3 + (3 : Int32)).toNatClampNeg) (xs (x3 + (4 : Int32)).toNatClampNeg) hRel 
        refine lcI (As := [.int (xs (x3 + (1 : Int32)).toNatClampNeg), .int (xs (x3 + (2 : Int32)).toNatClampNeg), .int (xs (x3 + (3 : Int32)).toNatClampNeg), .int (xs (x3 + (4 : Int32)).toNatClampNeg)]) (rest := []) (ci := 5) (k := 0) hx hb hml hown hts hK hA (m_X6_act l D ad cI cJ cZ S (xs (x3 + (1 : Int32)).toNatClampNeg) (xs (x3 + (2 : Int32)).toNatClampNeg) (xs (x3 + (3 : Int32)).toNatClampNeg) (xs (x3 + (4 : Int32)).toNatClampNeg) _ h) cal_X6_act kw_651 kw_652 kw_653 rfl rfl rfl rfl hl.1 rfl (Nat.le_of_ble_eq_true rfl) ⟨Nat.le_of_ble_eq_true rfl, Nat.le_of_ble_eq_true rfl⟩ rfl rfl ⟨Nat.le_of_ble_eq_true rfl, Nat.le_of_ble_eq_true rfl⟩ dL_law_207 hP hP2 hD hS (fun rc S' H locs h hP hP2 hD hS => ?_)
        refine lv_aload_n hx hb dL_law_210 rfl (lv_at hl 2 rfl) ?_
        refine lv_aload_n hx hb dL_law_211 rfl (lv_at hl 0 rfl) ?_
        refine lv_iload_n hx hb dL_law_212 rfl (lv_at hl 3 rfl) ?_
        refine lv_iconst (v := 1) hx hb dL_law_213 (by decide) ?_
        refine lv_iadd hx hb dL_law_214 ?_
        refine va_sld hx hb hX hbl hbA hS h_1 dL_law_215 ?_
        refine lv_aload_n hx hb dL_law_216 rfl (lv_at hl 0 rfl) ?_
        refine lv_iload_n hx hb dL_law_217 rfl (lv_at hl 3 rfl) ?_
        refine lv_iconst (v := 2) hx hb dL_law_218 (by decide) ?_
        refine lv_iadd hx hb dL_law_219 ?_
        refine va_sld hx hb hX hbl hbA hS h_2 dL_law_220 ?_
        refine lv_aload_n hx hb dL_law_221 rfl (lv_at hl 0 rfl) ?_
        refine lv_iload_n hx hb dL_law_222 rfl (lv_at hl 3 rfl) ?_
        refine lv_iconst (v := 3) hx hb dL_law_223 (by decide) ?_
        refine lv_iadd hx hb dL_law_224 ?_
        refine va_sld hx hb hX hbl hbA hS h_3 dL_law_225 ?_
        refine lv_aload_n hx hb dL_law_226 rfl (lv_at hl 0 rfl) ?_
        refine lv_iload_n hx hb dL_law_227 rfl (lv_at hl 3 rfl) ?_
        refine lv_iconst (v := 4) hx hb dL_law_228 (by decide) ?_
        refine lv_iadd hx hb dL_law_229 ?_
        refine va_sld hx hb hX hbl hbA hS h_4 dL_law_230 ?_
        refine lcI (As := [.int (xs (x3 + (1 : Int32)).toNatClampNeg), .int (xs (x3 + (2 : Int32)).toNatClampNeg), .int (xs (x3 + (3 : Int32)).toNatClampNeg), .int (xs (x3 + (4 : Int32)).toNatClampNeg)]) (rest := [.int rc]) (ci := 6) (k := 0) hx hb hml hown hts hK hA (m_X7_act l D am cI cJ cZ M (xs (x3 + (1 : Int32)).toNatClampNeg) (xs (x3 + (2 : Int32)).toNatClampNeg) (xs (x3 + (3 : Int32)).toNatClampNeg) (xs (x3 + (4 : Int32)).toNatClampNeg) _ h) cal_X7_act kw_654 kw_655 kw_656 rfl rfl rfl rfl hl.1 rfl (Nat.le_of_ble_eq_true rfl) ⟨Nat.le_of_ble_eq_true rfl, Nat.le_of_ble_eq_true rfl⟩ rfl rfl ⟨Nat.le_of_ble_eq_true rfl, Nat.le_of_ble_eq_true rfl⟩ dL_law_231 hP2 hP hD.swap hS (fun rm M' H locs h hP2 hP hD hS => ?_)
        replace hD := hD.swap
        refine lv_icmp_eq (tgt := 628) hx hb dL_law_234 (by decide) (fun cq => ?_) (fun cq => ?_)
        · have hRel := h.2
          refine lv_iinc (v := nI (5 * (k + 1))) (lv' := [(3, .int (nI (5 * (k + 1)))), (0, .ref b), (1, .ref (ad 0)), (2, .ref (am 0))]) hx hb dL_law_628 hl (k := 3) rfl (by rw [ex3]; exact nI_add (5 * k) 5) (by decide) rfl (fun ls hl => ?_)
          refine lv_goto (tgt := 18) hx hb dL_law_631 (by decide) ?_
          exact ih (k + 1) S' M' H locs ls (by omega) (by omega) hRel hP hP2 hD hS (lv_sub hl [1, 2, 3, 0] rfl)
        · exact absurd h.1 cq
      · refine tbl_inC (v := 3) (off := 207) (tgt := 239) hx hb dL_law_32 ho (by decide) (by decide) (by decide) (by decide) ?_
        refine lv_aload_n hx hb dL_law_239 rfl (lv_at hl 1 rfl) ?_
        refine lv_aload_n hx hb dL_law_240 rfl (lv_at hl 0 rfl) ?_
        refine lv_iload_n hx hb dL_law_241 rfl (lv_at hl 3 rfl) ?_
        refine lv_iconst (v := 1) hx hb dL_law_242 (by decide) ?_
        refine lv_iadd hx hb dL_law_243 ?_
        refine va_sld hx hb hX hbl hbA hS h_1 dL_law_244 ?_
        refine lv_aload_n hx hb dL_law_245 rfl (lv_at hl 0 rfl) ?_
        refine lv_iload_n hx hb dL_law_246 rfl (lv_at hl 3 rfl) ?_
        refine lv_iconst (v := 2) hx hb dL_law_247 (by decide) ?_
        refine lv_iadd hx hb dL_law_248 ?_
        refine va_sld hx hb hX hbl hbA hS h_2 dL_law_249 ?_
        refine lv_aload_n hx hb dL_law_250 rfl (lv_at hl 0 rfl) ?_
        refine lv_iload_n hx hb dL_law_251 rfl (lv_at hl 3 rfl) ?_
        refine lv_iconst (v := 3) hx hb dL_law_252 (by decide) ?_
        refine lv_iadd hx hb dL_law_253 ?_
        refine va_sld hx hb hX hbl hbA hS h_3 dL_law_254 ?_
        refine lv_aload_n hx hb dL_law_255 rfl (lv_at hl 0 rfl) ?_
        refine lv_iload_n hx hb dL_law_256 rfl (lv_at hl 3 rfl) ?_
        refine lv_iconst (v := 4) hx hb dL_law_257 (by decide) ?_
        refine lv_iadd hx hb dL_law_258 ?_
        refine va_sld hx hb hX hbl hbA hS h_4 dL_law_259 ?_
        have h := hst.2.2.2.1 S M (xs (x3 + (1 : Int32)).toNatClampNeg) (xs (x3 + (2 : Int32)).toNatClampNeg) (xs (x3 + (3 : Int32)).toNatClampNeg) (xs (x3 + (4 : Int32)).toNatClampNeg) hRel 
        refine lcI (As := [.int (xs (x3 + (1 : Int32)).toNatClampNeg), .int (xs (x3 + (2 : Int32)).toNatClampNeg), .int (xs (x3 + (3 : Int32)).toNatClampNeg), .int (xs (x3 + (4 : Int32)).toNatClampNeg)]) (rest := []) (ci := 5) (k := 0) hx hb hml hown hts hK hA (m_X6_lend l D ad cI cJ cZ S (xs (x3 + (1 : Int32)).toNatClampNeg) (xs (x3 + (2 : Int32)).toNatClampNeg) (xs (x3 + (3 : Int32)).toNatClampNeg) (xs (x3 + (4 : Int32)).toNatClampNeg) _ h) cal_X6_lend kw_657 kw_658 kw_659 rfl rfl rfl rfl hl.1 rfl (Nat.le_of_ble_eq_true rfl) ⟨Nat.le_of_ble_eq_true rfl, Nat.le_of_ble_eq_true rfl⟩ rfl rfl ⟨Nat.le_of_ble_eq_true rfl, Nat.le_of_ble_eq_true rfl⟩ dL_law_260 hP hP2 hD hS (fun rc S' H locs h hP hP2 hD hS => ?_)
        refine lv_aload_n hx hb dL_law_263 rfl (lv_at hl 2 rfl) ?_
        refine lv_aload_n hx hb dL_law_264 rfl (lv_at hl 0 rfl) ?_
        refine lv_iload_n hx hb dL_law_265 rfl (lv_at hl 3 rfl) ?_
        refine lv_iconst (v := 1) hx hb dL_law_266 (by decide) ?_
        refine lv_iadd hx hb dL_law_267 ?_
        refine va_sld hx hb hX hbl hbA hS h_1 dL_law_268 ?_
        refine lv_aload_n hx hb dL_law_269 rfl (lv_at hl 0 rfl) ?_
        refine lv_iload_n hx hb dL_law_270 rfl (lv_at hl 3 rfl) ?_
        refine lv_iconst (v := 2) hx hb dL_law_271 (by decide) ?_
        refine lv_iadd hx hb dL_law_272 ?_
        refine va_sld hx hb hX hbl hbA hS h_2 dL_law_273 ?_
        refine lv_aload_n hx hb dL_law_274 rfl (lv_at hl 0 rfl) ?_
        refine lv_iload_n hx hb dL_law_275 rfl (lv_at hl 3 rfl) ?_
        refine lv_iconst (v := 3) hx hb dL_law_276 (by decide) ?_
        refine lv_iadd hx hb dL_law_277 ?_
        refine va_sld hx hb hX hbl hbA hS h_3 dL_law_278 ?_
        refine lv_aload_n hx hb dL_law_279 rfl (lv_at hl 0 rfl) ?_
        refine lv_iload_n hx hb dL_law_280 rfl (lv_at hl 3 rfl) ?_
        refine lv_iconst (v := 4) hx hb dL_law_281 (by decide) ?_
        refine lv_iadd hx hb dL_law_282 ?_
        refine va_sld hx hb hX hbl hbA hS h_4 dL_law_283 ?_
        refine lcI (As := [.int (xs (x3 + (1 : Int32)).toNatClampNeg), .int (xs (x3 + (2 : Int32)).toNatClampNeg), .int (xs (x3 + (3 : Int32)).toNatClampNeg), .int (xs (x3 + (4 : Int32)).toNatClampNeg)]) (rest := [.int rc]) (ci := 6) (k := 0) hx hb hml hown hts hK hA (m_X7_lend l D am cI cJ cZ M (xs (x3 + (1 : Int32)).toNatClampNeg) (xs (x3 + (2 : Int32)).toNatClampNeg) (xs (x3 + (3 : Int32)).toNatClampNeg) (xs (x3 + (4 : Int32)).toNatClampNeg) _ h) cal_X7_lend kw_660 kw_661 kw_662 rfl rfl rfl rfl hl.1 rfl (Nat.le_of_ble_eq_true rfl) ⟨Nat.le_of_ble_eq_true rfl, Nat.le_of_ble_eq_true rfl⟩ rfl rfl ⟨Nat.le_of_ble_eq_true rfl, Nat.le_of_ble_eq_true rfl⟩ dL_law_284 hP2 hP hD.swap hS (fun rm M' H locs h hP2 hP hD hS => ?_)
        replace hD := hD.swap
        refine lv_icmp_eq (tgt := 628) hx hb dL_law_287 (by decide) (fun cq => ?_) (fun cq => ?_)
        · have hRel := h.2
          refine lv_iinc (v := nI (5 * (k + 1))) (lv' := [(3, .int (nI (5 * (k + 1)))), (0, .ref b), (1, .ref (ad 0)), (2, .ref (am 0))]) hx hb dL_law_628 hl (k := 3) rfl (by rw [ex3]; exact nI_add (5 * k) 5) (by decide) rfl (fun ls hl => ?_)
          refine lv_goto (tgt := 18) hx hb dL_law_631 (by decide) ?_
          exact ih (k + 1) S' M' H locs ls (by omega) (by omega) hRel hP hP2 hD hS (lv_sub hl [1, 2, 3, 0] rfl)
        · exact absurd h.1 cq
      · refine tbl_inC (v := 4) (off := 260) (tgt := 292) hx hb dL_law_32 ho (by decide) (by decide) (by decide) (by decide) ?_
        refine lv_aload_n hx hb dL_law_292 rfl (lv_at hl 1 rfl) ?_
        refine lv_aload_n hx hb dL_law_293 rfl (lv_at hl 0 rfl) ?_
        refine lv_iload_n hx hb dL_law_294 rfl (lv_at hl 3 rfl) ?_
        refine lv_iconst (v := 1) hx hb dL_law_295 (by decide) ?_
        refine lv_iadd hx hb dL_law_296 ?_
        refine va_sld hx hb hX hbl hbA hS h_1 dL_law_297 ?_
        refine lv_aload_n hx hb dL_law_298 rfl (lv_at hl 0 rfl) ?_
        refine lv_iload_n hx hb dL_law_299 rfl (lv_at hl 3 rfl) ?_
        refine lv_iconst (v := 2) hx hb dL_law_300 (by decide) ?_
        refine lv_iadd hx hb dL_law_301 ?_
        refine va_sld hx hb hX hbl hbA hS h_2 dL_law_302 ?_
        refine lv_aload_n hx hb dL_law_303 rfl (lv_at hl 0 rfl) ?_
        refine lv_iload_n hx hb dL_law_304 rfl (lv_at hl 3 rfl) ?_
        refine lv_iconst (v := 3) hx hb dL_law_305 (by decide) ?_
        refine lv_iadd hx hb dL_law_306 ?_
        refine va_sld hx hb hX hbl hbA hS h_3 dL_law_307 ?_
        have h := hst.2.2.2.2.1 S M (xs (x3 + (1 : Int32)).toNatClampNeg) (xs (x3 + (2 : Int32)).toNatClampNeg) (xs (x3 + (3 : Int32)).toNatClampNeg) hRel 
        refine lcI (As := [.int (xs (x3 + (1 : Int32)).toNatClampNeg), .int (xs (x3 + (2 : Int32)).toNatClampNeg), .int (xs (x3 + (3 : Int32)).toNatClampNeg)]) (rest := []) (ci := 5) (k := 0) hx hb hml hown hts hK hA (m_X6_copy l D ad cI cJ cZ S (xs (x3 + (1 : Int32)).toNatClampNeg) (xs (x3 + (2 : Int32)).toNatClampNeg) (xs (x3 + (3 : Int32)).toNatClampNeg) _ h) cal_X6_copy kw_663 kw_664 kw_665 rfl rfl rfl rfl hl.1 rfl (Nat.le_of_ble_eq_true rfl) ⟨Nat.le_of_ble_eq_true rfl, Nat.le_of_ble_eq_true rfl⟩ rfl rfl ⟨Nat.le_of_ble_eq_true rfl, Nat.le_of_ble_eq_true rfl⟩ dL_law_308 hP hP2 hD hS (fun rc S' H locs h hP hP2 hD hS => ?_)
        refine lv_aload_n hx hb dL_law_311 rfl (lv_at hl 2 rfl) ?_
        refine lv_aload_n hx hb dL_law_312 rfl (lv_at hl 0 rfl) ?_
        refine lv_iload_n hx hb dL_law_313 rfl (lv_at hl 3 rfl) ?_
        refine lv_iconst (v := 1) hx hb dL_law_314 (by decide) ?_
        refine lv_iadd hx hb dL_law_315 ?_
        refine va_sld hx hb hX hbl hbA hS h_1 dL_law_316 ?_
        refine lv_aload_n hx hb dL_law_317 rfl (lv_at hl 0 rfl) ?_
        refine lv_iload_n hx hb dL_law_318 rfl (lv_at hl 3 rfl) ?_
        refine lv_iconst (v := 2) hx hb dL_law_319 (by decide) ?_
        refine lv_iadd hx hb dL_law_320 ?_
        refine va_sld hx hb hX hbl hbA hS h_2 dL_law_321 ?_
        refine lv_aload_n hx hb dL_law_322 rfl (lv_at hl 0 rfl) ?_
        refine lv_iload_n hx hb dL_law_323 rfl (lv_at hl 3 rfl) ?_
        refine lv_iconst (v := 3) hx hb dL_law_324 (by decide) ?_
        refine lv_iadd hx hb dL_law_325 ?_
        refine va_sld hx hb hX hbl hbA hS h_3 dL_law_326 ?_
        refine lcI (As := [.int (xs (x3 + (1 : Int32)).toNatClampNeg), .int (xs (x3 + (2 : Int32)).toNatClampNeg), .int (xs (x3 + (3 : Int32)).toNatClampNeg)]) (rest := [.int rc]) (ci := 6) (k := 0) hx hb hml hown hts hK hA (m_X7_copy l D am cI cJ cZ M (xs (x3 + (1 : Int32)).toNatClampNeg) (xs (x3 + (2 : Int32)).toNatClampNeg) (xs (x3 + (3 : Int32)).toNatClampNeg) _ h) cal_X7_copy kw_666 kw_667 kw_668 rfl rfl rfl rfl hl.1 rfl (Nat.le_of_ble_eq_true rfl) ⟨Nat.le_of_ble_eq_true rfl, Nat.le_of_ble_eq_true rfl⟩ rfl rfl ⟨Nat.le_of_ble_eq_true rfl, Nat.le_of_ble_eq_true rfl⟩ dL_law_327 hP2 hP hD.swap hS (fun rm M' H locs h hP2 hP hD hS => ?_)
        replace hD := hD.swap
        refine lv_icmp_eq (tgt := 628) hx hb dL_law_330 (by decide) (fun cq => ?_) (fun cq => ?_)
        · have hRel := h.2
          refine lv_iinc (v := nI (5 * (k + 1))) (lv' := [(3, .int (nI (5 * (k + 1)))), (0, .ref b), (1, .ref (ad 0)), (2, .ref (am 0))]) hx hb dL_law_628 hl (k := 3) rfl (by rw [ex3]; exact nI_add (5 * k) 5) (by decide) rfl (fun ls hl => ?_)
          refine lv_goto (tgt := 18) hx hb dL_law_631 (by decide) ?_
          exact ih (k + 1) S' M' H locs ls (by omega) (by omega) hRel hP hP2 hD hS (lv_sub hl [1, 2, 3, 0] rfl)
        · exact absurd h.1 cq
      · refine tbl_inC (v := 5) (off := 303) (tgt := 335) hx hb dL_law_32 ho (by decide) (by decide) (by decide) (by decide) ?_
        refine lv_aload_n hx hb dL_law_335 rfl (lv_at hl 1 rfl) ?_
        refine lv_aload_n hx hb dL_law_336 rfl (lv_at hl 0 rfl) ?_
        refine lv_iload_n hx hb dL_law_337 rfl (lv_at hl 3 rfl) ?_
        refine lv_iconst (v := 1) hx hb dL_law_338 (by decide) ?_
        refine lv_iadd hx hb dL_law_339 ?_
        refine va_sld hx hb hX hbl hbA hS h_1 dL_law_340 ?_
        refine lv_aload_n hx hb dL_law_341 rfl (lv_at hl 0 rfl) ?_
        refine lv_iload_n hx hb dL_law_342 rfl (lv_at hl 3 rfl) ?_
        refine lv_iconst (v := 2) hx hb dL_law_343 (by decide) ?_
        refine lv_iadd hx hb dL_law_344 ?_
        refine va_sld hx hb hX hbl hbA hS h_2 dL_law_345 ?_
        refine lv_aload_n hx hb dL_law_346 rfl (lv_at hl 0 rfl) ?_
        refine lv_iload_n hx hb dL_law_347 rfl (lv_at hl 3 rfl) ?_
        refine lv_iconst (v := 3) hx hb dL_law_348 (by decide) ?_
        refine lv_iadd hx hb dL_law_349 ?_
        refine va_sld hx hb hX hbl hbA hS h_3 dL_law_350 ?_
        refine lv_if_eq (tgt := 358) hx hb dL_law_351 (by decide) (fun c351 => ?_) (fun c351 => ?_)
        · refine lv_iconst (v := 0) hx hb dL_law_358 (by decide) ?_
          have h := hst.2.2.2.2.2.1 S M (xs (x3 + (1 : Int32)).toNatClampNeg) (xs (x3 + (2 : Int32)).toNatClampNeg) (0 : Int32) hRel (Or.inl rfl) 
          refine lcI (As := [.int (xs (x3 + (1 : Int32)).toNatClampNeg), .int (xs (x3 + (2 : Int32)).toNatClampNeg), .int (0 : Int32)]) (rest := []) (ci := 5) (k := 0) hx hb hml hown hts hK hA (m_X6_next l D ad cI cJ cZ S (xs (x3 + (1 : Int32)).toNatClampNeg) (xs (x3 + (2 : Int32)).toNatClampNeg) (0 : Int32) _ h) cal_X6_next kw_669 kw_670 kw_671 rfl rfl rfl rfl hl.1 rfl (Nat.le_of_ble_eq_true rfl) ⟨Nat.le_of_ble_eq_true rfl, Nat.le_of_ble_eq_true rfl⟩ rfl rfl ⟨Nat.le_of_ble_eq_true rfl, Nat.le_of_ble_eq_true rfl⟩ dL_law_359 hP hP2 hD hS (fun rc S' H locs h hP hP2 hD hS => ?_)
          refine lv_aload_n hx hb dL_law_362 rfl (lv_at hl 2 rfl) ?_
          refine lv_aload_n hx hb dL_law_363 rfl (lv_at hl 0 rfl) ?_
          refine lv_iload_n hx hb dL_law_364 rfl (lv_at hl 3 rfl) ?_
          refine lv_iconst (v := 1) hx hb dL_law_365 (by decide) ?_
          refine lv_iadd hx hb dL_law_366 ?_
          refine va_sld hx hb hX hbl hbA hS h_1 dL_law_367 ?_
          refine lv_aload_n hx hb dL_law_368 rfl (lv_at hl 0 rfl) ?_
          refine lv_iload_n hx hb dL_law_369 rfl (lv_at hl 3 rfl) ?_
          refine lv_iconst (v := 2) hx hb dL_law_370 (by decide) ?_
          refine lv_iadd hx hb dL_law_371 ?_
          refine va_sld hx hb hX hbl hbA hS h_2 dL_law_372 ?_
          refine lv_aload_n hx hb dL_law_373 rfl (lv_at hl 0 rfl) ?_
          refine lv_iload_n hx hb dL_law_374 rfl (lv_at hl 3 rfl) ?_
          refine lv_iconst (v := 3) hx hb dL_law_375 (by decide) ?_
          refine lv_iadd hx hb dL_law_376 ?_
          refine va_sld hx hb hX hbl hbA hS h_3 dL_law_377 ?_
          refine lv_if_eq (tgt := 385) hx hb dL_law_378 (by decide) (fun c378 => ?_) (fun c378 => ?_)
          · refine lv_iconst (v := 0) hx hb dL_law_385 (by decide) ?_
            refine lcI (As := [.int (xs (x3 + (1 : Int32)).toNatClampNeg), .int (xs (x3 + (2 : Int32)).toNatClampNeg), .int (0 : Int32)]) (rest := [.int rc]) (ci := 6) (k := 0) hx hb hml hown hts hK hA (m_X7_next l D am cI cJ cZ M (xs (x3 + (1 : Int32)).toNatClampNeg) (xs (x3 + (2 : Int32)).toNatClampNeg) (0 : Int32) _ h) cal_X7_next kw_672 kw_673 kw_674 rfl rfl rfl rfl hl.1 rfl (Nat.le_of_ble_eq_true rfl) ⟨Nat.le_of_ble_eq_true rfl, Nat.le_of_ble_eq_true rfl⟩ rfl rfl ⟨Nat.le_of_ble_eq_true rfl, Nat.le_of_ble_eq_true rfl⟩ dL_law_386 hP2 hP hD.swap hS (fun rm M' H locs h hP2 hP hD hS => ?_)
            replace hD := hD.swap
            refine lv_icmp_eq (tgt := 628) hx hb dL_law_389 (by decide) (fun cq => ?_) (fun cq => ?_)
            · have hRel := h.2
              refine lv_iinc (v := nI (5 * (k + 1))) (lv' := [(3, .int (nI (5 * (k + 1)))), (0, .ref b), (1, .ref (ad 0)), (2, .ref (am 0))]) hx hb dL_law_628 hl (k := 3) rfl (by rw [ex3]; exact nI_add (5 * k) 5) (by decide) rfl (fun ls hl => ?_)
              refine lv_goto (tgt := 18) hx hb dL_law_631 (by decide) ?_
              exact ih (k + 1) S' M' H locs ls (by omega) (by omega) hRel hP hP2 hD hS (lv_sub hl [1, 2, 3, 0] rfl)
            · exact absurd h.1 cq
          · exact absurd c351 c378
        · refine lv_iconst (v := 1) hx hb dL_law_354 (by decide) ?_
          refine lv_goto (tgt := 359) hx hb dL_law_355 (by decide) ?_
          have h := hst.2.2.2.2.2.1 S M (xs (x3 + (1 : Int32)).toNatClampNeg) (xs (x3 + (2 : Int32)).toNatClampNeg) (1 : Int32) hRel (Or.inr rfl) 
          refine lcI (As := [.int (xs (x3 + (1 : Int32)).toNatClampNeg), .int (xs (x3 + (2 : Int32)).toNatClampNeg), .int (1 : Int32)]) (rest := []) (ci := 5) (k := 0) hx hb hml hown hts hK hA (m_X6_next l D ad cI cJ cZ S (xs (x3 + (1 : Int32)).toNatClampNeg) (xs (x3 + (2 : Int32)).toNatClampNeg) (1 : Int32) _ h) cal_X6_next kw_669 kw_670 kw_671 rfl rfl rfl rfl hl.1 rfl (Nat.le_of_ble_eq_true rfl) ⟨Nat.le_of_ble_eq_true rfl, Nat.le_of_ble_eq_true rfl⟩ rfl rfl ⟨Nat.le_of_ble_eq_true rfl, Nat.le_of_ble_eq_true rfl⟩ dL_law_359 hP hP2 hD hS (fun rc S' H locs h hP hP2 hD hS => ?_)
          refine lv_aload_n hx hb dL_law_362 rfl (lv_at hl 2 rfl) ?_
          refine lv_aload_n hx hb dL_law_363 rfl (lv_at hl 0 rfl) ?_
          refine lv_iload_n hx hb dL_law_364 rfl (lv_at hl 3 rfl) ?_
          refine lv_iconst (v := 1) hx hb dL_law_365 (by decide) ?_
          refine lv_iadd hx hb dL_law_366 ?_
          refine va_sld hx hb hX hbl hbA hS h_1 dL_law_367 ?_
          refine lv_aload_n hx hb dL_law_368 rfl (lv_at hl 0 rfl) ?_
          refine lv_iload_n hx hb dL_law_369 rfl (lv_at hl 3 rfl) ?_
          refine lv_iconst (v := 2) hx hb dL_law_370 (by decide) ?_
          refine lv_iadd hx hb dL_law_371 ?_
          refine va_sld hx hb hX hbl hbA hS h_2 dL_law_372 ?_
          refine lv_aload_n hx hb dL_law_373 rfl (lv_at hl 0 rfl) ?_
          refine lv_iload_n hx hb dL_law_374 rfl (lv_at hl 3 rfl) ?_
          refine lv_iconst (v := 3) hx hb dL_law_375 (by decide) ?_
          refine lv_iadd hx hb dL_law_376 ?_
          refine va_sld hx hb hX hbl hbA hS h_3 dL_law_377 ?_
          refine lv_if_eq (tgt := 385) hx hb dL_law_378 (by decide) (fun c378 => ?_) (fun c378 => ?_)
          · exact absurd c378 c351
          · refine lv_iconst (v := 1) hx hb dL_law_381 (by decide) ?_
            refine lv_goto (tgt := 386) hx hb dL_law_382 (by decide) ?_
            refine lcI (As := [.int (xs (x3 + (1 : Int32)).toNatClampNeg), .int (xs (x3 + (2 : Int32)).toNatClampNeg), .int (1 : Int32)]) (rest := [.int rc]) (ci := 6) (k := 0) hx hb hml hown hts hK hA (m_X7_next l D am cI cJ cZ M (xs (x3 + (1 : Int32)).toNatClampNeg) (xs (x3 + (2 : Int32)).toNatClampNeg) (1 : Int32) _ h) cal_X7_next kw_672 kw_673 kw_674 rfl rfl rfl rfl hl.1 rfl (Nat.le_of_ble_eq_true rfl) ⟨Nat.le_of_ble_eq_true rfl, Nat.le_of_ble_eq_true rfl⟩ rfl rfl ⟨Nat.le_of_ble_eq_true rfl, Nat.le_of_ble_eq_true rfl⟩ dL_law_386 hP2 hP hD.swap hS (fun rm M' H locs h hP2 hP hD hS => ?_)
            replace hD := hD.swap
            refine lv_icmp_eq (tgt := 628) hx hb dL_law_389 (by decide) (fun cq => ?_) (fun cq => ?_)
            · have hRel := h.2
              refine lv_iinc (v := nI (5 * (k + 1))) (lv' := [(3, .int (nI (5 * (k + 1)))), (0, .ref b), (1, .ref (ad 0)), (2, .ref (am 0))]) hx hb dL_law_628 hl (k := 3) rfl (by rw [ex3]; exact nI_add (5 * k) 5) (by decide) rfl (fun ls hl => ?_)
              refine lv_goto (tgt := 18) hx hb dL_law_631 (by decide) ?_
              exact ih (k + 1) S' M' H locs ls (by omega) (by omega) hRel hP hP2 hD hS (lv_sub hl [1, 2, 3, 0] rfl)
            · exact absurd h.1 cq
      · refine tbl_inC (v := 6) (off := 362) (tgt := 394) hx hb dL_law_32 ho (by decide) (by decide) (by decide) (by decide) ?_
        refine lv_aload_n hx hb dL_law_394 rfl (lv_at hl 1 rfl) ?_
        have h := hst.2.2.2.2.2.2.1 S M  hRel 
        refine lcI (As := []) (rest := []) (ci := 5) (k := 0) hx hb hml hown hts hK hA (m_X6_judge l D ad cI cJ cZ S _ h) cal_X6_judge kw_675 kw_676 kw_677 rfl rfl rfl rfl hl.1 rfl (Nat.le_of_ble_eq_true rfl) ⟨Nat.le_of_ble_eq_true rfl, Nat.le_of_ble_eq_true rfl⟩ rfl rfl ⟨Nat.le_of_ble_eq_true rfl, Nat.le_of_ble_eq_true rfl⟩ dL_law_395 hP hP2 hD hS (fun rc S' H locs h hP hP2 hD hS => ?_)
        refine lv_aload_n hx hb dL_law_398 rfl (lv_at hl 2 rfl) ?_
        refine lcI (As := []) (rest := [.int rc]) (ci := 6) (k := 0) hx hb hml hown hts hK hA (m_X7_judge l D am cI cJ cZ M _ h) cal_X7_judge kw_678 kw_679 kw_680 rfl rfl rfl rfl hl.1 rfl (Nat.le_of_ble_eq_true rfl) ⟨Nat.le_of_ble_eq_true rfl, Nat.le_of_ble_eq_true rfl⟩ rfl rfl ⟨Nat.le_of_ble_eq_true rfl, Nat.le_of_ble_eq_true rfl⟩ dL_law_399 hP2 hP hD.swap hS (fun rm M' H locs h hP2 hP hD hS => ?_)
        replace hD := hD.swap
        refine lv_icmp_eq (tgt := 628) hx hb dL_law_402 (by decide) (fun cq => ?_) (fun cq => ?_)
        · have hRel := h.2
          refine lv_iinc (v := nI (5 * (k + 1))) (lv' := [(3, .int (nI (5 * (k + 1)))), (0, .ref b), (1, .ref (ad 0)), (2, .ref (am 0))]) hx hb dL_law_628 hl (k := 3) rfl (by rw [ex3]; exact nI_add (5 * k) 5) (by decide) rfl (fun ls hl => ?_)
          refine lv_goto (tgt := 18) hx hb dL_law_631 (by decide) ?_
          exact ih (k + 1) S' M' H locs ls (by omega) (by omega) hRel hP hP2 hD hS (lv_sub hl [1, 2, 3, 0] rfl)
        · exact absurd h.1 cq
      · refine tbl_inC (v := 7) (off := 375) (tgt := 407) hx hb dL_law_32 ho (by decide) (by decide) (by decide) (by decide) ?_
        refine lv_aload_n hx hb dL_law_407 rfl (lv_at hl 1 rfl) ?_
        refine lv_aload_n hx hb dL_law_408 rfl (lv_at hl 0 rfl) ?_
        refine lv_iload_n hx hb dL_law_409 rfl (lv_at hl 3 rfl) ?_
        refine lv_iconst (v := 1) hx hb dL_law_410 (by decide) ?_
        refine lv_iadd hx hb dL_law_411 ?_
        refine va_sld hx hb hX hbl hbA hS h_1 dL_law_412 ?_
        have h := hst.2.2.2.2.2.2.2.1 S M (xs (x3 + (1 : Int32)).toNatClampNeg) hRel 
        refine lcI (As := [.int (xs (x3 + (1 : Int32)).toNatClampNeg)]) (rest := []) (ci := 5) (k := 0) hx hb hml hown hts hK hA (m_X6_fault l D ad cI cJ cZ S (xs (x3 + (1 : Int32)).toNatClampNeg) _ h) cal_X6_fault kw_681 kw_682 kw_683 rfl rfl rfl rfl hl.1 rfl (Nat.le_of_ble_eq_true rfl) ⟨Nat.le_of_ble_eq_true rfl, Nat.le_of_ble_eq_true rfl⟩ rfl rfl ⟨Nat.le_of_ble_eq_true rfl, Nat.le_of_ble_eq_true rfl⟩ dL_law_413 hP hP2 hD hS (fun rc S' H locs h hP hP2 hD hS => ?_)
        refine lv_aload_n hx hb dL_law_416 rfl (lv_at hl 2 rfl) ?_
        refine lv_aload_n hx hb dL_law_417 rfl (lv_at hl 0 rfl) ?_
        refine lv_iload_n hx hb dL_law_418 rfl (lv_at hl 3 rfl) ?_
        refine lv_iconst (v := 1) hx hb dL_law_419 (by decide) ?_
        refine lv_iadd hx hb dL_law_420 ?_
        refine va_sld hx hb hX hbl hbA hS h_1 dL_law_421 ?_
        refine lcI (As := [.int (xs (x3 + (1 : Int32)).toNatClampNeg)]) (rest := [.int rc]) (ci := 6) (k := 0) hx hb hml hown hts hK hA (m_X7_fault l D am cI cJ cZ M (xs (x3 + (1 : Int32)).toNatClampNeg) _ h) cal_X7_fault kw_684 kw_685 kw_686 rfl rfl rfl rfl hl.1 rfl (Nat.le_of_ble_eq_true rfl) ⟨Nat.le_of_ble_eq_true rfl, Nat.le_of_ble_eq_true rfl⟩ rfl rfl ⟨Nat.le_of_ble_eq_true rfl, Nat.le_of_ble_eq_true rfl⟩ dL_law_422 hP2 hP hD.swap hS (fun rm M' H locs h hP2 hP hD hS => ?_)
        replace hD := hD.swap
        refine lv_icmp_eq (tgt := 628) hx hb dL_law_425 (by decide) (fun cq => ?_) (fun cq => ?_)
        · have hRel := h.2
          refine lv_iinc (v := nI (5 * (k + 1))) (lv' := [(3, .int (nI (5 * (k + 1)))), (0, .ref b), (1, .ref (ad 0)), (2, .ref (am 0))]) hx hb dL_law_628 hl (k := 3) rfl (by rw [ex3]; exact nI_add (5 * k) 5) (by decide) rfl (fun ls hl => ?_)
          refine lv_goto (tgt := 18) hx hb dL_law_631 (by decide) ?_
          exact ih (k + 1) S' M' H locs ls (by omega) (by omega) hRel hP hP2 hD hS (lv_sub hl [1, 2, 3, 0] rfl)
        · exact absurd h.1 cq
      · refine tbl_inC (v := 8) (off := 398) (tgt := 430) hx hb dL_law_32 ho (by decide) (by decide) (by decide) (by decide) ?_
        refine lv_aload_n hx hb dL_law_430 rfl (lv_at hl 1 rfl) ?_
        refine lv_aload_n hx hb dL_law_431 rfl (lv_at hl 0 rfl) ?_
        refine lv_iload_n hx hb dL_law_432 rfl (lv_at hl 3 rfl) ?_
        refine lv_iconst (v := 1) hx hb dL_law_433 (by decide) ?_
        refine lv_iadd hx hb dL_law_434 ?_
        refine va_sld hx hb hX hbl hbA hS h_1 dL_law_435 ?_
        have h := hst.2.2.2.2.2.2.2.2.1 S M (xs (x3 + (1 : Int32)).toNatClampNeg) hRel 
        refine lcI (As := [.int (xs (x3 + (1 : Int32)).toNatClampNeg)]) (rest := []) (ci := 5) (k := 0) hx hb hml hown hts hK hA (m_X6_comes l D ad cI cJ cZ S (xs (x3 + (1 : Int32)).toNatClampNeg) _ h) cal_X6_comes kw_687 kw_688 kw_689 rfl rfl rfl rfl hl.1 rfl (Nat.le_of_ble_eq_true rfl) ⟨Nat.le_of_ble_eq_true rfl, Nat.le_of_ble_eq_true rfl⟩ rfl rfl ⟨Nat.le_of_ble_eq_true rfl, Nat.le_of_ble_eq_true rfl⟩ dL_law_436 hP hP2 hD hS (fun rc S' H locs h hP hP2 hD hS => ?_)
        refine lv_aload_n hx hb dL_law_439 rfl (lv_at hl 2 rfl) ?_
        refine lv_aload_n hx hb dL_law_440 rfl (lv_at hl 0 rfl) ?_
        refine lv_iload_n hx hb dL_law_441 rfl (lv_at hl 3 rfl) ?_
        refine lv_iconst (v := 1) hx hb dL_law_442 (by decide) ?_
        refine lv_iadd hx hb dL_law_443 ?_
        refine va_sld hx hb hX hbl hbA hS h_1 dL_law_444 ?_
        refine lcI (As := [.int (xs (x3 + (1 : Int32)).toNatClampNeg)]) (rest := [.int rc]) (ci := 6) (k := 0) hx hb hml hown hts hK hA (m_X7_comes l D am cI cJ cZ M (xs (x3 + (1 : Int32)).toNatClampNeg) _ h) cal_X7_comes kw_690 kw_691 kw_692 rfl rfl rfl rfl hl.1 rfl (Nat.le_of_ble_eq_true rfl) ⟨Nat.le_of_ble_eq_true rfl, Nat.le_of_ble_eq_true rfl⟩ rfl rfl ⟨Nat.le_of_ble_eq_true rfl, Nat.le_of_ble_eq_true rfl⟩ dL_law_445 hP2 hP hD.swap hS (fun rm M' H locs h hP2 hP hD hS => ?_)
        replace hD := hD.swap
        refine lv_icmp_eq (tgt := 628) hx hb dL_law_448 (by decide) (fun cq => ?_) (fun cq => ?_)
        · have hRel := h.2
          refine lv_iinc (v := nI (5 * (k + 1))) (lv' := [(3, .int (nI (5 * (k + 1)))), (0, .ref b), (1, .ref (ad 0)), (2, .ref (am 0))]) hx hb dL_law_628 hl (k := 3) rfl (by rw [ex3]; exact nI_add (5 * k) 5) (by decide) rfl (fun ls hl => ?_)
          refine lv_goto (tgt := 18) hx hb dL_law_631 (by decide) ?_
          exact ih (k + 1) S' M' H locs ls (by omega) (by omega) hRel hP hP2 hD hS (lv_sub hl [1, 2, 3, 0] rfl)
        · exact absurd h.1 cq
      · refine tbl_inC (v := 9) (off := 421) (tgt := 453) hx hb dL_law_32 ho (by decide) (by decide) (by decide) (by decide) ?_
        refine lv_aload_n hx hb dL_law_453 rfl (lv_at hl 1 rfl) ?_
        refine lv_aload_n hx hb dL_law_454 rfl (lv_at hl 0 rfl) ?_
        refine lv_iload_n hx hb dL_law_455 rfl (lv_at hl 3 rfl) ?_
        refine lv_iconst (v := 1) hx hb dL_law_456 (by decide) ?_
        refine lv_iadd hx hb dL_law_457 ?_
        refine va_sld hx hb hX hbl hbA hS h_1 dL_law_458 ?_
        refine lv_aload_n hx hb dL_law_459 rfl (lv_at hl 0 rfl) ?_
        refine lv_iload_n hx hb dL_law_460 rfl (lv_at hl 3 rfl) ?_
        refine lv_iconst (v := 2) hx hb dL_law_461 (by decide) ?_
        refine lv_iadd hx hb dL_law_462 ?_
        refine va_sld hx hb hX hbl hbA hS h_2 dL_law_463 ?_
        refine lv_aload_n hx hb dL_law_464 rfl (lv_at hl 0 rfl) ?_
        refine lv_iload_n hx hb dL_law_465 rfl (lv_at hl 3 rfl) ?_
        refine lv_iconst (v := 3) hx hb dL_law_466 (by decide) ?_
        refine lv_iadd hx hb dL_law_467 ?_
        refine va_sld hx hb hX hbl hbA hS h_3 dL_law_468 ?_
        have h := hst.2.2.2.2.2.2.2.2.2.1 S M (xs (x3 + (1 : Int32)).toNatClampNeg) (xs (x3 + (2 : Int32)).toNatClampNeg) (xs (x3 + (3 : Int32)).toNatClampNeg) hRel 
        refine lcI (As := [.int (xs (x3 + (1 : Int32)).toNatClampNeg), .int (xs (x3 + (2 : Int32)).toNatClampNeg), .int (xs (x3 + (3 : Int32)).toNatClampNeg)]) (rest := []) (ci := 5) (k := 0) hx hb hml hown hts hK hA (m_X6_held l D ad cI cJ cZ S (xs (x3 + (1 : Int32)).toNatClampNeg) (xs (x3 + (2 : Int32)).toNatClampNeg) (xs (x3 + (3 : Int32)).toNatClampNeg) _ h) cal_X6_held kw_693 kw_694 kw_695 rfl rfl rfl rfl hl.1 rfl (Nat.le_of_ble_eq_true rfl) ⟨Nat.le_of_ble_eq_true rfl, Nat.le_of_ble_eq_true rfl⟩ rfl rfl ⟨Nat.le_of_ble_eq_true rfl, Nat.le_of_ble_eq_true rfl⟩ dL_law_469 hP hP2 hD hS (fun rc S' H locs h hP hP2 hD hS => ?_)
        refine lv_aload_n hx hb dL_law_472 rfl (lv_at hl 2 rfl) ?_
        refine lv_aload_n hx hb dL_law_473 rfl (lv_at hl 0 rfl) ?_
        refine lv_iload_n hx hb dL_law_474 rfl (lv_at hl 3 rfl) ?_
        refine lv_iconst (v := 1) hx hb dL_law_475 (by decide) ?_
        refine lv_iadd hx hb dL_law_476 ?_
        refine va_sld hx hb hX hbl hbA hS h_1 dL_law_477 ?_
        refine lv_aload_n hx hb dL_law_478 rfl (lv_at hl 0 rfl) ?_
        refine lv_iload_n hx hb dL_law_479 rfl (lv_at hl 3 rfl) ?_
        refine lv_iconst (v := 2) hx hb dL_law_480 (by decide) ?_
        refine lv_iadd hx hb dL_law_481 ?_
        refine va_sld hx hb hX hbl hbA hS h_2 dL_law_482 ?_
        refine lv_aload_n hx hb dL_law_483 rfl (lv_at hl 0 rfl) ?_
        refine lv_iload_n hx hb dL_law_484 rfl (lv_at hl 3 rfl) ?_
        refine lv_iconst (v := 3) hx hb dL_law_485 (by decide) ?_
        refine lv_iadd hx hb dL_law_486 ?_
        refine va_sld hx hb hX hbl hbA hS h_3 dL_law_487 ?_
        refine lcI (As := [.int (xs (x3 + (1 : Int32)).toNatClampNeg), .int (xs (x3 + (2 : Int32)).toNatClampNeg), .int (xs (x3 + (3 : Int32)).toNatClampNeg)]) (rest := [.int rc]) (ci := 6) (k := 0) hx hb hml hown hts hK hA (m_X7_held l D am cI cJ cZ M (xs (x3 + (1 : Int32)).toNatClampNeg) (xs (x3 + (2 : Int32)).toNatClampNeg) (xs (x3 + (3 : Int32)).toNatClampNeg) _ h) cal_X7_held kw_696 kw_697 kw_698 rfl rfl rfl rfl hl.1 rfl (Nat.le_of_ble_eq_true rfl) ⟨Nat.le_of_ble_eq_true rfl, Nat.le_of_ble_eq_true rfl⟩ rfl rfl ⟨Nat.le_of_ble_eq_true rfl, Nat.le_of_ble_eq_true rfl⟩ dL_law_488 hP2 hP hD.swap hS (fun rm M' H locs h hP2 hP hD hS => ?_)
        replace hD := hD.swap
        refine lv_icmp_eq (tgt := 628) hx hb dL_law_491 (by decide) (fun cq => ?_) (fun cq => ?_)
        · have hRel := h.2
          refine lv_iinc (v := nI (5 * (k + 1))) (lv' := [(3, .int (nI (5 * (k + 1)))), (0, .ref b), (1, .ref (ad 0)), (2, .ref (am 0))]) hx hb dL_law_628 hl (k := 3) rfl (by rw [ex3]; exact nI_add (5 * k) 5) (by decide) rfl (fun ls hl => ?_)
          refine lv_goto (tgt := 18) hx hb dL_law_631 (by decide) ?_
          exact ih (k + 1) S' M' H locs ls (by omega) (by omega) hRel hP hP2 hD hS (lv_sub hl [1, 2, 3, 0] rfl)
        · exact absurd h.1 cq
      · refine tbl_inC (v := 10) (off := 464) (tgt := 496) hx hb dL_law_32 ho (by decide) (by decide) (by decide) (by decide) ?_
        refine lv_aload_n hx hb dL_law_496 rfl (lv_at hl 1 rfl) ?_
        refine lv_aload_n hx hb dL_law_497 rfl (lv_at hl 0 rfl) ?_
        refine lv_iload_n hx hb dL_law_498 rfl (lv_at hl 3 rfl) ?_
        refine lv_iconst (v := 1) hx hb dL_law_499 (by decide) ?_
        refine lv_iadd hx hb dL_law_500 ?_
        refine va_sld hx hb hX hbl hbA hS h_1 dL_law_501 ?_
        refine lv_aload_n hx hb dL_law_502 rfl (lv_at hl 0 rfl) ?_
        refine lv_iload_n hx hb dL_law_503 rfl (lv_at hl 3 rfl) ?_
        refine lv_iconst (v := 2) hx hb dL_law_504 (by decide) ?_
        refine lv_iadd hx hb dL_law_505 ?_
        refine va_sld hx hb hX hbl hbA hS h_2 dL_law_506 ?_
        refine lv_aload_n hx hb dL_law_507 rfl (lv_at hl 0 rfl) ?_
        refine lv_iload_n hx hb dL_law_508 rfl (lv_at hl 3 rfl) ?_
        refine lv_iconst (v := 3) hx hb dL_law_509 (by decide) ?_
        refine lv_iadd hx hb dL_law_510 ?_
        refine va_sld hx hb hX hbl hbA hS h_3 dL_law_511 ?_
        have h := hst.2.2.2.2.2.2.2.2.2.2.1 S M (xs (x3 + (1 : Int32)).toNatClampNeg) (xs (x3 + (2 : Int32)).toNatClampNeg) (xs (x3 + (3 : Int32)).toNatClampNeg) hRel 
        refine lcI (As := [.int (xs (x3 + (1 : Int32)).toNatClampNeg), .int (xs (x3 + (2 : Int32)).toNatClampNeg), .int (xs (x3 + (3 : Int32)).toNatClampNeg)]) (rest := []) (ci := 5) (k := 0) hx hb hml hown hts hK hA (m_X6_holds l D ad cI cJ cZ S (xs (x3 + (1 : Int32)).toNatClampNeg) (xs (x3 + (2 : Int32)).toNatClampNeg) (xs (x3 + (3 : Int32)).toNatClampNeg) _ h) cal_X6_holds kw_699 kw_700 kw_701 rfl rfl rfl rfl hl.1 rfl (Nat.le_of_ble_eq_true rfl) ⟨Nat.le_of_ble_eq_true rfl, Nat.le_of_ble_eq_true rfl⟩ rfl rfl ⟨Nat.le_of_ble_eq_true rfl, Nat.le_of_ble_eq_true rfl⟩ dL_law_512 hP hP2 hD hS (fun rc S' H locs h hP hP2 hD hS => ?_)
        refine lv_aload_n hx hb dL_law_515 rfl (lv_at hl 2 rfl) ?_
        refine lv_aload_n hx hb dL_law_516 rfl (lv_at hl 0 rfl) ?_
        refine lv_iload_n hx hb dL_law_517 rfl (lv_at hl 3 rfl) ?_
        refine lv_iconst (v := 1) hx hb dL_law_518 (by decide) ?_
        refine lv_iadd hx hb dL_law_519 ?_
        refine va_sld hx hb hX hbl hbA hS h_1 dL_law_520 ?_
        refine lv_aload_n hx hb dL_law_521 rfl (lv_at hl 0 rfl) ?_
        refine lv_iload_n hx hb dL_law_522 rfl (lv_at hl 3 rfl) ?_
        refine lv_iconst (v := 2) hx hb dL_law_523 (by decide) ?_
        refine lv_iadd hx hb dL_law_524 ?_
        refine va_sld hx hb hX hbl hbA hS h_2 dL_law_525 ?_
        refine lv_aload_n hx hb dL_law_526 rfl (lv_at hl 0 rfl) ?_
        refine lv_iload_n hx hb dL_law_527 rfl (lv_at hl 3 rfl) ?_
        refine lv_iconst (v := 3) hx hb dL_law_528 (by decide) ?_
        refine lv_iadd hx hb dL_law_529 ?_
        refine va_sld hx hb hX hbl hbA hS h_3 dL_law_530 ?_
        refine lcI (As := [.int (xs (x3 + (1 : Int32)).toNatClampNeg), .int (xs (x3 + (2 : Int32)).toNatClampNeg), .int (xs (x3 + (3 : Int32)).toNatClampNeg)]) (rest := [.int rc]) (ci := 6) (k := 0) hx hb hml hown hts hK hA (m_X7_holds l D am cI cJ cZ M (xs (x3 + (1 : Int32)).toNatClampNeg) (xs (x3 + (2 : Int32)).toNatClampNeg) (xs (x3 + (3 : Int32)).toNatClampNeg) _ h) cal_X7_holds kw_702 kw_703 kw_704 rfl rfl rfl rfl hl.1 rfl (Nat.le_of_ble_eq_true rfl) ⟨Nat.le_of_ble_eq_true rfl, Nat.le_of_ble_eq_true rfl⟩ rfl rfl ⟨Nat.le_of_ble_eq_true rfl, Nat.le_of_ble_eq_true rfl⟩ dL_law_531 hP2 hP hD.swap hS (fun rm M' H locs h hP2 hP hD hS => ?_)
        replace hD := hD.swap
        refine lv_icmp_eq (tgt := 628) hx hb dL_law_534 (by decide) (fun cq => ?_) (fun cq => ?_)
        · have hRel := h.2
          refine lv_iinc (v := nI (5 * (k + 1))) (lv' := [(3, .int (nI (5 * (k + 1)))), (0, .ref b), (1, .ref (ad 0)), (2, .ref (am 0))]) hx hb dL_law_628 hl (k := 3) rfl (by rw [ex3]; exact nI_add (5 * k) 5) (by decide) rfl (fun ls hl => ?_)
          refine lv_goto (tgt := 18) hx hb dL_law_631 (by decide) ?_
          exact ih (k + 1) S' M' H locs ls (by omega) (by omega) hRel hP hP2 hD hS (lv_sub hl [1, 2, 3, 0] rfl)
        · exact absurd h.1 cq
      · refine tbl_inC (v := 11) (off := 507) (tgt := 539) hx hb dL_law_32 ho (by decide) (by decide) (by decide) (by decide) ?_
        refine lv_aload_n hx hb dL_law_539 rfl (lv_at hl 1 rfl) ?_
        refine lv_aload_n hx hb dL_law_540 rfl (lv_at hl 0 rfl) ?_
        refine lv_iload_n hx hb dL_law_541 rfl (lv_at hl 3 rfl) ?_
        refine lv_iconst (v := 1) hx hb dL_law_542 (by decide) ?_
        refine lv_iadd hx hb dL_law_543 ?_
        refine va_sld hx hb hX hbl hbA hS h_1 dL_law_544 ?_
        refine lv_aload_n hx hb dL_law_545 rfl (lv_at hl 0 rfl) ?_
        refine lv_iload_n hx hb dL_law_546 rfl (lv_at hl 3 rfl) ?_
        refine lv_iconst (v := 2) hx hb dL_law_547 (by decide) ?_
        refine lv_iadd hx hb dL_law_548 ?_
        refine va_sld hx hb hX hbl hbA hS h_2 dL_law_549 ?_
        have h := hst.2.2.2.2.2.2.2.2.2.2.2.1 S M (xs (x3 + (1 : Int32)).toNatClampNeg) (xs (x3 + (2 : Int32)).toNatClampNeg) hRel 
        refine lcI (As := [.int (xs (x3 + (1 : Int32)).toNatClampNeg), .int (xs (x3 + (2 : Int32)).toNatClampNeg)]) (rest := []) (ci := 5) (k := 0) hx hb hml hown hts hK hA (m_X6_used l D ad cI cJ cZ S (xs (x3 + (1 : Int32)).toNatClampNeg) (xs (x3 + (2 : Int32)).toNatClampNeg) _ h) cal_X6_used kw_705 kw_706 kw_707 rfl rfl rfl rfl hl.1 rfl (Nat.le_of_ble_eq_true rfl) ⟨Nat.le_of_ble_eq_true rfl, Nat.le_of_ble_eq_true rfl⟩ rfl rfl ⟨Nat.le_of_ble_eq_true rfl, Nat.le_of_ble_eq_true rfl⟩ dL_law_550 hP hP2 hD hS (fun rc S' H locs h hP hP2 hD hS => ?_)
        refine lv_aload_n hx hb dL_law_553 rfl (lv_at hl 2 rfl) ?_
        refine lv_aload_n hx hb dL_law_554 rfl (lv_at hl 0 rfl) ?_
        refine lv_iload_n hx hb dL_law_555 rfl (lv_at hl 3 rfl) ?_
        refine lv_iconst (v := 1) hx hb dL_law_556 (by decide) ?_
        refine lv_iadd hx hb dL_law_557 ?_
        refine va_sld hx hb hX hbl hbA hS h_1 dL_law_558 ?_
        refine lv_aload_n hx hb dL_law_559 rfl (lv_at hl 0 rfl) ?_
        refine lv_iload_n hx hb dL_law_560 rfl (lv_at hl 3 rfl) ?_
        refine lv_iconst (v := 2) hx hb dL_law_561 (by decide) ?_
        refine lv_iadd hx hb dL_law_562 ?_
        refine va_sld hx hb hX hbl hbA hS h_2 dL_law_563 ?_
        refine lcI (As := [.int (xs (x3 + (1 : Int32)).toNatClampNeg), .int (xs (x3 + (2 : Int32)).toNatClampNeg)]) (rest := [.int rc]) (ci := 6) (k := 0) hx hb hml hown hts hK hA (m_X7_used l D am cI cJ cZ M (xs (x3 + (1 : Int32)).toNatClampNeg) (xs (x3 + (2 : Int32)).toNatClampNeg) _ h) cal_X7_used kw_708 kw_709 kw_710 rfl rfl rfl rfl hl.1 rfl (Nat.le_of_ble_eq_true rfl) ⟨Nat.le_of_ble_eq_true rfl, Nat.le_of_ble_eq_true rfl⟩ rfl rfl ⟨Nat.le_of_ble_eq_true rfl, Nat.le_of_ble_eq_true rfl⟩ dL_law_564 hP2 hP hD.swap hS (fun rm M' H locs h hP2 hP hD hS => ?_)
        replace hD := hD.swap
        refine lv_icmp_eq (tgt := 628) hx hb dL_law_567 (by decide) (fun cq => ?_) (fun cq => ?_)
        · have hRel := h.2
          refine lv_iinc (v := nI (5 * (k + 1))) (lv' := [(3, .int (nI (5 * (k + 1)))), (0, .ref b), (1, .ref (ad 0)), (2, .ref (am 0))]) hx hb dL_law_628 hl (k := 3) rfl (by rw [ex3]; exact nI_add (5 * k) 5) (by decide) rfl (fun ls hl => ?_)
          refine lv_goto (tgt := 18) hx hb dL_law_631 (by decide) ?_
          exact ih (k + 1) S' M' H locs ls (by omega) (by omega) hRel hP hP2 hD hS (lv_sub hl [1, 2, 3, 0] rfl)
        · exact absurd h.1 cq
      · refine tbl_inC (v := 12) (off := 540) (tgt := 572) hx hb dL_law_32 ho (by decide) (by decide) (by decide) (by decide) ?_
        refine lv_aload_n hx hb dL_law_572 rfl (lv_at hl 1 rfl) ?_
        refine lv_aload_n hx hb dL_law_573 rfl (lv_at hl 0 rfl) ?_
        refine lv_iload_n hx hb dL_law_574 rfl (lv_at hl 3 rfl) ?_
        refine lv_iconst (v := 1) hx hb dL_law_575 (by decide) ?_
        refine lv_iadd hx hb dL_law_576 ?_
        refine va_sld hx hb hX hbl hbA hS h_1 dL_law_577 ?_
        refine lv_aload_n hx hb dL_law_578 rfl (lv_at hl 0 rfl) ?_
        refine lv_iload_n hx hb dL_law_579 rfl (lv_at hl 3 rfl) ?_
        refine lv_iconst (v := 2) hx hb dL_law_580 (by decide) ?_
        refine lv_iadd hx hb dL_law_581 ?_
        refine va_sld hx hb hX hbl hbA hS h_2 dL_law_582 ?_
        have h := hst.2.2.2.2.2.2.2.2.2.2.2.2.1 S M (xs (x3 + (1 : Int32)).toNatClampNeg) (xs (x3 + (2 : Int32)).toNatClampNeg) hRel 
        refine lcI (As := [.int (xs (x3 + (1 : Int32)).toNatClampNeg), .int (xs (x3 + (2 : Int32)).toNatClampNeg)]) (rest := []) (ci := 5) (k := 0) hx hb hml hown hts hK hA (m_X6_force l D ad cI cJ cZ S (xs (x3 + (1 : Int32)).toNatClampNeg) (xs (x3 + (2 : Int32)).toNatClampNeg) _ h) cal_X6_force kw_711 kw_712 kw_713 rfl rfl rfl rfl hl.1 rfl (Nat.le_of_ble_eq_true rfl) ⟨Nat.le_of_ble_eq_true rfl, Nat.le_of_ble_eq_true rfl⟩ rfl rfl ⟨Nat.le_of_ble_eq_true rfl, Nat.le_of_ble_eq_true rfl⟩ dL_law_583 hP hP2 hD hS (fun rc S' H locs h hP hP2 hD hS => ?_)
        refine lv_aload_n hx hb dL_law_586 rfl (lv_at hl 2 rfl) ?_
        refine lv_aload_n hx hb dL_law_587 rfl (lv_at hl 0 rfl) ?_
        refine lv_iload_n hx hb dL_law_588 rfl (lv_at hl 3 rfl) ?_
        refine lv_iconst (v := 1) hx hb dL_law_589 (by decide) ?_
        refine lv_iadd hx hb dL_law_590 ?_
        refine va_sld hx hb hX hbl hbA hS h_1 dL_law_591 ?_
        refine lv_aload_n hx hb dL_law_592 rfl (lv_at hl 0 rfl) ?_
        refine lv_iload_n hx hb dL_law_593 rfl (lv_at hl 3 rfl) ?_
        refine lv_iconst (v := 2) hx hb dL_law_594 (by decide) ?_
        refine lv_iadd hx hb dL_law_595 ?_
        refine va_sld hx hb hX hbl hbA hS h_2 dL_law_596 ?_
        refine lcI (As := [.int (xs (x3 + (1 : Int32)).toNatClampNeg), .int (xs (x3 + (2 : Int32)).toNatClampNeg)]) (rest := [.int rc]) (ci := 6) (k := 0) hx hb hml hown hts hK hA (m_X7_force l D am cI cJ cZ M (xs (x3 + (1 : Int32)).toNatClampNeg) (xs (x3 + (2 : Int32)).toNatClampNeg) _ h) cal_X7_force kw_714 kw_715 kw_716 rfl rfl rfl rfl hl.1 rfl (Nat.le_of_ble_eq_true rfl) ⟨Nat.le_of_ble_eq_true rfl, Nat.le_of_ble_eq_true rfl⟩ rfl rfl ⟨Nat.le_of_ble_eq_true rfl, Nat.le_of_ble_eq_true rfl⟩ dL_law_597 hP2 hP hD.swap hS (fun rm M' H locs h hP2 hP hD hS => ?_)
        replace hD := hD.swap
        refine lv_icmp_eq (tgt := 628) hx hb dL_law_600 (by decide) (fun cq => ?_) (fun cq => ?_)
        · have hRel := h.2
          refine lv_iinc (v := nI (5 * (k + 1))) (lv' := [(3, .int (nI (5 * (k + 1)))), (0, .ref b), (1, .ref (ad 0)), (2, .ref (am 0))]) hx hb dL_law_628 hl (k := 3) rfl (by rw [ex3]; exact nI_add (5 * k) 5) (by decide) rfl (fun ls hl => ?_)
          refine lv_goto (tgt := 18) hx hb dL_law_631 (by decide) ?_
          exact ih (k + 1) S' M' H locs ls (by omega) (by omega) hRel hP hP2 hD hS (lv_sub hl [1, 2, 3, 0] rfl)
        · exact absurd h.1 cq
      · refine tbl_inC (v := 13) (off := 573) (tgt := 605) hx hb dL_law_32 ho (by decide) (by decide) (by decide) (by decide) ?_
        refine lv_aload_n hx hb dL_law_605 rfl (lv_at hl 1 rfl) ?_
        refine lv_aload_n hx hb dL_law_606 rfl (lv_at hl 0 rfl) ?_
        refine lv_iload_n hx hb dL_law_607 rfl (lv_at hl 3 rfl) ?_
        refine lv_iconst (v := 1) hx hb dL_law_608 (by decide) ?_
        refine lv_iadd hx hb dL_law_609 ?_
        refine va_sld hx hb hX hbl hbA hS h_1 dL_law_610 ?_
        have h := hst.2.2.2.2.2.2.2.2.2.2.2.2.2 S M (xs (x3 + (1 : Int32)).toNatClampNeg) hRel 
        refine lcI (As := [.int (xs (x3 + (1 : Int32)).toNatClampNeg)]) (rest := []) (ci := 5) (k := 0) hx hb hml hown hts hK hA (m_X6_count l D ad cI cJ cZ S (xs (x3 + (1 : Int32)).toNatClampNeg) _ h) cal_X6_count kw_717 kw_718 kw_719 rfl rfl rfl rfl hl.1 rfl (Nat.le_of_ble_eq_true rfl) ⟨Nat.le_of_ble_eq_true rfl, Nat.le_of_ble_eq_true rfl⟩ rfl rfl ⟨Nat.le_of_ble_eq_true rfl, Nat.le_of_ble_eq_true rfl⟩ dL_law_611 hP hP2 hD hS (fun rc S' H locs h hP hP2 hD hS => ?_)
        refine lv_aload_n hx hb dL_law_614 rfl (lv_at hl 2 rfl) ?_
        refine lv_aload_n hx hb dL_law_615 rfl (lv_at hl 0 rfl) ?_
        refine lv_iload_n hx hb dL_law_616 rfl (lv_at hl 3 rfl) ?_
        refine lv_iconst (v := 1) hx hb dL_law_617 (by decide) ?_
        refine lv_iadd hx hb dL_law_618 ?_
        refine va_sld hx hb hX hbl hbA hS h_1 dL_law_619 ?_
        refine lcI (As := [.int (xs (x3 + (1 : Int32)).toNatClampNeg)]) (rest := [.int rc]) (ci := 6) (k := 0) hx hb hml hown hts hK hA (m_X7_count l D am cI cJ cZ M (xs (x3 + (1 : Int32)).toNatClampNeg) _ h) cal_X7_count kw_720 kw_721 kw_722 rfl rfl rfl rfl hl.1 rfl (Nat.le_of_ble_eq_true rfl) ⟨Nat.le_of_ble_eq_true rfl, Nat.le_of_ble_eq_true rfl⟩ rfl rfl ⟨Nat.le_of_ble_eq_true rfl, Nat.le_of_ble_eq_true rfl⟩ dL_law_620 hP2 hP hD.swap hS (fun rm M' H locs h hP2 hP hD hS => ?_)
        replace hD := hD.swap
        refine lv_icmp_eq (tgt := 628) hx hb dL_law_623 (by decide) (fun cq => ?_) (fun cq => ?_)
        · have hRel := h.2
          refine lv_iinc (v := nI (5 * (k + 1))) (lv' := [(3, .int (nI (5 * (k + 1)))), (0, .ref b), (1, .ref (ad 0)), (2, .ref (am 0))]) hx hb dL_law_628 hl (k := 3) rfl (by rw [ex3]; exact nI_add (5 * k) 5) (by decide) rfl (fun ls hl => ?_)
          refine lv_goto (tgt := 18) hx hb dL_law_631 (by decide) ?_
          exact ih (k + 1) S' M' H locs ls (by omega) (by omega) hRel hP hP2 hD hS (lv_sub hl [1, 2, 3, 0] rfl)
        · exact absurd h.1 cq
theorem nst_1 : Cond.methodLinkNest RX4 54 yX6_leafBit "LoanWays" ∈ lw_tbl := tb_1 (List.mem_of_getElem? (i := 239) (by decide +kernel))
theorem nst_2 : Cond.methodLinkNest RX0 54 yX6_answer "LoanWays" ∈ lw_tbl := tb_2 (List.mem_of_getElem? (i := 22) (by decide +kernel))
theorem nst_3 : Cond.methodLinkNest RX6 11 yX4_init "LoanWays" ∈ lw_tbl := tb_1 (List.mem_of_getElem? (i := 22) (by decide +kernel))
theorem nst_4 : Cond.methodLinkNest RX6 27 yX5_init "LoanWays" ∈ lw_tbl := tb_1 (List.mem_of_getElem? (i := 86) (by decide +kernel))
set_option maxHeartbeats 8000000 in
set_option maxRecDepth 100000 in
theorem whole_open {Rel : CS → MS → Prop} (hst : StepsOK Rel) (h0 : Rel S0 M0) {p : Program} {e : Env} {s : State} {m : MethodId} {below : List Frame} {meth : Method} {c : Code} (l : Launch) {b L : Nat} {xs : Nat → Int32} (hL : L ≤ 2560) (C0 : lw_At p s m meth c b L xs) : W p l e room_1 s m #[Value.ref b] below meth c s.heap [] 0 0 (lw_Z below #[Value.ref b] s) (entryFrame m ([Value.ref b] : List Value).toArray 4) := by
  obtain ⟨hx, hb, hr, hml, hown, hts, hX, hbl, hlocks, hgv⟩ := id C0
  have hA : ∀ q : Nat, s.heap.size ≤ q → (fun q : Nat => s.heap.size ≤ q) q := fun _ h => h
  obtain ⟨k0, i0, hKn0⟩ := u_known (C := RX0) (T := TX0) (N := 11) (n := 11) hts (fun w hw => gt_l (in_X0 w hw)) (hts _ (gt_l kw_601))
  obtain ⟨k1, i1, hKn1⟩ := u_known (C := RX1) (T := TX1) (N := 5) (n := 5) hts (fun w hw => gt_l (in_X1 w hw)) (hts _ (gt_l kw_610))
  obtain ⟨k2, i2, hKn2⟩ := u_known (C := RX2) (T := TX2) (N := 11) (n := 11) hts (fun w hw => gt_l (in_X2 w hw)) (hts _ (gt_l kw_615))
  obtain ⟨k3, i3, hKn3⟩ := u_known (C := RX4) (T := TX4) (N := 4) (n := 4) hts (fun w hw => gt_l (in_X4 w hw)) (hts _ (gt_l kw_597))
  obtain ⟨k4, i4, hKn4⟩ := u_known (C := RX5) (T := TX5) (N := 6) (n := 6) hts (fun w hw => gt_l (in_X5 w hw)) (hts _ (gt_l kw_606))
  obtain ⟨k5, i5, hKn5⟩ := u_known (C := RX6) (T := TX6) (N := 8) (n := 8) hts (fun w hw => gt_l (in_X6 w hw)) (hts _ (gt_l kw_723))
  obtain ⟨k6, i6, hKn6⟩ := u_known (C := RX7) (T := TX7) (N := 25) (n := 25) hts (fun w hw => gt_l (in_X7 w hw)) (hts _ (gt_l kw_724))
  obtain ⟨cI, kAI, compI, fI1, fI2, fI3⟩ := Cond.arrayClass_spec (hts _ (gt_l kw_725))
  obtain ⟨cJ, kAJ, compJ, fJ1, fJ2, fJ3⟩ := Cond.arrayClass_spec (hts _ (gt_l kw_726))
  obtain ⟨cZ, kAZ, compZ, fZ1, fZ2, fZ3⟩ := Cond.arrayClass_spec (hts _ (gt_l kw_727))
  obtain ⟨dC, dI, hKc⟩ : ∃ (dC : Nat → ClassId) (dI : Nat → Nat → Nat), ∀ (k : Nat) (q : vw_C), vwCl[k]? = some q → u_Kn s q.1 q.2.1 q.2.2 (dC k) (dI k) := by
    refine ⟨fun k => [k0, k1, k2, k3, k4, k5, k6].getD k 0, fun k => [i0, i1, i2, i3, i4, i5, i6].getD k i0, ?_⟩
    intro k q hq
    match k, hq with
    | 0, hq => cases hq; exact hKn0
    | 1, hq => cases hq; exact hKn1
    | 2, hq => cases hq; exact hKn2
    | 3, hq => cases hq; exact hKn3
    | 4, hq => cases hq; exact hKn4
    | 5, hq => cases hq; exact hKn5
    | 6, hq => cases hq; exact hKn6
    | k + 7, hq => simp [vwCl] at hq
  have hK1 : va_K (dC, dI) vwCl [(cI, .int), (cJ, .long), (cZ, .boolean)] s := by
    refine ⟨hKc, fun k q h => ?_⟩
    match k, h with
    | 0, h => cases h; exact ⟨fun n z => ⟨fun k h => (by cases h), kAI, fI2, compI, fI3⟩, fI1⟩
    | 1, h => cases h; exact ⟨fun n z => ⟨fun k h => (by cases h), kAJ, fJ2, compJ, fJ3⟩, fJ1⟩
    | 2, h => cases h; exact ⟨fun n z => ⟨fun k h => (by cases h), kAZ, fZ2, compZ, fZ3⟩, fZ1⟩
    | k + 3, h => simp at h
  have hK : Kn (dC, dI) cI cJ cZ s := ⟨hK1, va_Nw.of rfl (hts _ (nst_1)), va_Nw.of rfl (hts _ (nst_2)), va_Nw.of rfl (hts _ (nst_3)), va_Nw.of rfl (hts _ (nst_4))⟩
  have hS : va_S (fun q : Nat => s.heap.size ≤ q) s.heap s.heap [] := va_S.rf
  have hP : va_P (dC, dI) vwCl [] s.heap := fun k q h => by simp at h
  have hD : va_D (fun q : Nat => s.heap.size ≤ q) [] := ⟨fun i j p q h => by simp at h, fun k q h => by simp at h⟩
  have hl := lv_entry ([.ref b]) (n := 4) (Nat.le_of_ble_eq_true rfl)
  rw [lg_entry_eq]
  generalize (lg_sl ([.ref b]) ++ List.replicate (4 - (lg_sl ([.ref b])).length) Slot.unset).toArray = ls at hl ⊢
  have hl : lv_has ls 4 [(0, .ref b)] := hl
  refine va_new (ci := 5) (fs := [.null, .null, .null, .null, .null, .int 0, .int 0, .int 0]) (C := RX6) (T := TX6) (N := 8) hx hb hts (fun w hw => gt_l (in_X6 w hw)) tyX6 tyX6_ok hown (hts _ (gt_l kw_728)) (hts _ (gt_l kw_723)) (hts _ (gt_l kw_476)) hK1 hP hD hS hA rfl (fun j hj => by rcases (show j = 0 ∨ j = 1 ∨ j = 2 ∨ j = 3 ∨ j = 4 ∨ j = 5 ∨ j = 6 ∨ j = 7 by omega) with rfl | rfl | rfl | rfl | rfl | rfl | rfl | rfl <;> rfl) (Nat.le_of_ble_eq_true rfl) (Nat.le_of_ble_eq_true rfl) dL_law_0 (fun qX6 H hP hD hS => ?_)
  have hP : va_P (dC, dI) vwCl ([] ++ [(qX6, .inr (5, [.null, .null, .null, .null, .null, .int 0, .int 0, .int 0]))]) H := hP
  have hD : va_D (fun q : Nat => s.heap.size ≤ q) ([] ++ [(qX6, .inr (5, [.null, .null, .null, .null, .null, .int 0, .int 0, .int 0]))]) := hD
  refine W.cs (cells' := 1) (slots' := 8) rfl rfl ?_
  refine lv_dup hx hb dL_law_3 rfl ?_
  have hPc := hP.sub (ws' := [(qX6, .inr (5, [.null, .null, .null, .null, .null, .int 0, .int 0, .int 0]))]) [0] rfl
  have hDc := hD.sub (ws' := [(qX6, .inr (5, [.null, .null, .null, .null, .null, .int 0, .int 0, .int 0]))]) [0] (by decide) rfl
  have hFc := va_free (wc := [(qX6, .inr (5, [.null, .null, .null, .null, .null, .int 0, .int 0, .int 0]))]) hD hS hA [0] rfl
  refine va_callv (va_runI (As := []) (rest := [.ref qX6]) ⟨hx, hb, hml, hown, hts⟩ (c_X6_init l (dC, dI) cI cJ cZ qX6 H.size) (cwI 0 hts (good_big (fun _ h => gt_l h) cal_X6_init.2.1) rfl rfl rfl (hts _ (gt_l cal_X6_init.1)) (hts _ (gt_l kw_729)) (hts _ (gt_l kw_730)) rfl cal_X6_init.2.2 ⟨Nat.le_of_ble_eq_true rfl, Nat.le_of_ble_eq_true rfl⟩) ⟨PreW.blind, fun U hU hW => ⟨rfl, by rw [hU], by rw [hU]; exact hPc, hK.warm hW, hDc.weaken (fun _ _ _ _ => trivial)⟩⟩ rfl rfl hl.1 rfl (lv_room (Nat.le_of_ble_eq_true rfl)) dL_law_4 ⟨Nat.le_of_ble_eq_true rfl, Nat.le_of_ble_eq_true rfl⟩) hS (fun q _ h => hFc q h) hFc (fun u t H1 locs ht hvm hw hB hz1 hk1 hS => ?_)
  refine W.cs (cells' := 31) (slots' := 5869) rfl rfl ?_
  obtain ⟨uX6, rfl⟩ : ∃ z, z = u := ⟨_, rfl⟩
  obtain ⟨hP1, hD1⟩ := hB
  rw [ht] at hP1
  have hP : va_P (dC, dI) vwCl (w_X6_init cI cJ cZ qX6 uX6) H1 := hP1
  have hD : va_D (fun q : Nat => s.heap.size ≤ q) (w_X6_init cI cJ cZ qX6 uX6) := hD1.weaken (fun _ _ _ h => hFc _ h)
  generalize H1 = H at hP hS ⊢
  refine lv_astore_n (lv' := [(1, .ref qX6), (0, .ref b)]) hx hb dL_law_7 rfl hl (by decide) rfl (fun ls hl => ?_)
  have hP0 := hP
  have hD0 := hD
  refine va_new (ci := 6) (fs := [.int 0, .null, .null, .null, .null, .null, .null, .null, .null, .int 0, .null, .null, .null, .null, .null, .null, .null, .int 0, .int 0, .int 0, .int 0, .int 0, .int 0, .null, .null]) (C := RX7) (T := TX7) (N := 25) hx hb hts (fun w hw => gt_l (in_X7 w hw)) tyX7 tyX7_ok hown (hts _ (gt_l kw_731)) (hts _ (gt_l kw_724)) (hts _ (gt_l kw_507)) hK1 hP hD hS hA rfl (fun j hj => by rcases (show j = 0 ∨ j = 1 ∨ j = 2 ∨ j = 3 ∨ j = 4 ∨ j = 5 ∨ j = 6 ∨ j = 7 ∨ j = 8 ∨ j = 9 ∨ j = 10 ∨ j = 11 ∨ j = 12 ∨ j = 13 ∨ j = 14 ∨ j = 15 ∨ j = 16 ∨ j = 17 ∨ j = 18 ∨ j = 19 ∨ j = 20 ∨ j = 21 ∨ j = 22 ∨ j = 23 ∨ j = 24 by omega) with rfl | rfl | rfl | rfl | rfl | rfl | rfl | rfl | rfl | rfl | rfl | rfl | rfl | rfl | rfl | rfl | rfl | rfl | rfl | rfl | rfl | rfl | rfl | rfl | rfl <;> rfl) (Nat.le_of_ble_eq_true rfl) (Nat.le_of_ble_eq_true rfl) dL_law_8 (fun qX7 H hP hD hS => ?_)
  have hP : va_P (dC, dI) vwCl ((w_X6_init cI cJ cZ qX6 uX6) ++ [(qX7, .inr (6, [.int 0, .null, .null, .null, .null, .null, .null, .null, .null, .int 0, .null, .null, .null, .null, .null, .null, .null, .int 0, .int 0, .int 0, .int 0, .int 0, .int 0, .null, .null]))]) H := hP
  have hD : va_D (fun q : Nat => s.heap.size ≤ q) ((w_X6_init cI cJ cZ qX6 uX6) ++ [(qX7, .inr (6, [.int 0, .null, .null, .null, .null, .null, .null, .null, .null, .int 0, .null, .null, .null, .null, .null, .null, .null, .int 0, .int 0, .int 0, .int 0, .int 0, .int 0, .null, .null]))]) := hD
  refine W.cs (cells' := 32) (slots' := 5894) rfl rfl ?_
  refine lv_dup hx hb dL_law_11 rfl ?_
  have hPc := hP.sub (ws' := [(qX7, .inr (6, [.int 0, .null, .null, .null, .null, .null, .null, .null, .null, .int 0, .null, .null, .null, .null, .null, .null, .null, .int 0, .int 0, .int 0, .int 0, .int 0, .int 0, .null, .null]))]) [31] rfl
  have hDc := hD.sub (ws' := [(qX7, .inr (6, [.int 0, .null, .null, .null, .null, .null, .null, .null, .null, .int 0, .null, .null, .null, .null, .null, .null, .null, .int 0, .int 0, .int 0, .int 0, .int 0, .int 0, .null, .null]))]) [31] (by decide) rfl
  have hFc := va_free (wc := [(qX7, .inr (6, [.int 0, .null, .null, .null, .null, .null, .null, .null, .null, .int 0, .null, .null, .null, .null, .null, .null, .null, .int 0, .int 0, .int 0, .int 0, .int 0, .int 0, .null, .null]))]) hD hS hA [31] rfl
  refine va_callv (va_runI (As := []) (rest := [.ref qX7]) ⟨hx, hb, hml, hown, hts⟩ (c_X7_init l (dC, dI) cI cJ cZ qX7 H.size) (cwI 0 hts (good_big (fun _ h => gt_l h) cal_X7_init.2.1) rfl rfl rfl (hts _ (gt_l cal_X7_init.1)) (hts _ (gt_l kw_732)) (hts _ (gt_l kw_733)) rfl cal_X7_init.2.2 ⟨Nat.le_of_ble_eq_true rfl, Nat.le_of_ble_eq_true rfl⟩) ⟨PreW.blind, fun U hU hW => ⟨rfl, by rw [hU], by rw [hU]; exact hPc, hK.warm hW, hDc.weaken (fun _ _ _ _ => trivial)⟩⟩ rfl rfl hl.1 rfl (lv_room (Nat.le_of_ble_eq_true rfl)) dL_law_12 ⟨Nat.le_of_ble_eq_true rfl, Nat.le_of_ble_eq_true rfl⟩) hS (fun q _ h => hFc q h) hFc (fun u t H1 locs ht hvm hw hB hz1 hk1 hS => ?_)
  refine W.cs (cells' := 49) (slots' := 414092) rfl rfl ?_
  obtain ⟨uX7, rfl⟩ : ∃ z, z = u := ⟨_, rfl⟩
  obtain ⟨hP1, hD1⟩ := hB
  rw [ht] at hP1
  have hout : ∀ (j : Nat) (q : Nat × va_E), (w_X6_init cI cJ cZ qX6 uX6)[j]? = some q → q.1 < H.size ∧ ¬ va_A [(qX7, .inr (6, [.int 0, .null, .null, .null, .null, .null, .null, .null, .null, .int 0, .null, .null, .null, .null, .null, .null, .null, .int 0, .int 0, .int 0, .int 0, .int 0, .int 0, .null, .null]))] H.size q.1 := fun j q hj => by
    have hj2 : (w_X6_init cI cJ cZ qX6 uX6 ++ [(qX7, .inr (6, [.int 0, .null, .null, .null, .null, .null, .null, .null, .null, .int 0, .null, .null, .null, .null, .null, .null, .null, .int 0, .int 0, .int 0, .int 0, .int 0, .int 0, .null, .null]))])[j]? = some q := by rw [List.getElem?_append_left (List.getElem?_eq_some_iff.mp hj).1]; exact hj
    have hlt := (hP j q hj2).lt
    refine ⟨hlt, ?_⟩
    rintro (⟨i, e, hi⟩ | hle)
    · match i, hi with
      | 0, hi =>
        have hq : qX7 = q.1 := congrArg (fun z => z.1) (Option.some.inj hi)
        have hb2 : (w_X6_init cI cJ cZ qX6 uX6 ++ [(qX7, .inr (6, [.int 0, .null, .null, .null, .null, .null, .null, .null, .null, .int 0, .null, .null, .null, .null, .null, .null, .null, .int 0, .int 0, .int 0, .int 0, .int 0, .int 0, .null, .null]))])[31]? = some (qX7, .inr (6, [.int 0, .null, .null, .null, .null, .null, .null, .null, .null, .int 0, .null, .null, .null, .null, .null, .null, .null, .int 0, .int 0, .int 0, .int 0, .int 0, .int 0, .null, .null])) := rfl
        have := hD.1 j 31 _ _ hj2 hb2 hq.symm
        have hlen : (w_X6_init cI cJ cZ qX6 uX6).length = 31 := rfl
        have := (List.getElem?_eq_some_iff.mp hj).1
        omega
      | i + 1, hi => simp at hi
    · omega
  have hPx : va_P (dC, dI) vwCl (w_X6_init cI cJ cZ qX6 uX6) H1 := fun j q hj => (hP j q (by rw [List.getElem?_append_left (List.getElem?_eq_some_iff.mp hj).1]; exact hj)).kept (hk1 q.1 (hout j q hj).1 (hout j q hj).2)
  have hD2 : D2 (fun q : Nat => s.heap.size ≤ q) (w_X6_init cI cJ cZ qX6 uX6) (w_X7_init cI cJ cZ qX7 uX7) := ⟨hD0, hD1.weaken (fun _ _ _ h => hFc _ h), fun i j p q hi hj e => (hout i p hi).2 (by rw [e]; exact hD1.2 j q hj)⟩
  refine lv_astore_n (lv' := [(2, .ref qX7), (1, .ref qX6), (0, .ref b)]) hx hb dL_law_15 rfl hl (by decide) rfl (fun ls hl => ?_)
  refine lv_iconst (v := 0) hx hb dL_law_16 (by decide) ?_
  refine lv_istore_n (lv' := [(3, .int 0), (2, .ref qX7), (1, .ref qX6), (0, .ref b)]) hx hb dL_law_17 rfl hl (by decide) rfl (fun ls hl => ?_)
  refine W.widen (k := 600000) (n := 7302250) (Nat.le_of_ble_eq_true rfl) (Nat.le_of_ble_eq_true rfl) ?_
  exact law_loop hst (ad := fun k => match k with | 0 => qX6 | k + 1 => uX6 k) (am := fun k => match k with | 0 => qX7 | k + 1 => uX7 k) hL C0 hK (L + 1) 0 S0 M0 _ _ ls (by omega) (by omega) h0 hPx hP1 hD2 hS (lv_sub hl [3, 2, 1, 0] rfl)

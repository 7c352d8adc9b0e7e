abbrev rm_X7_look : Room := { frames := 3, cells := 0, slots := 0, locals := 68 }
set_option maxHeartbeats 4000000 in
set_option maxRecDepth 100000 in
theorem mb_X7_look_67 {p : Program} {l : Launch} {e : Env} {s : State} {m : MethodId} {args : Array Value} {below : List Frame} {meth : Method} {c : Code} {D : va_G} {ad : Nat → Nat} {cI cJ cZ : ClassId} {A : Nat → Prop} {post : MS → Prop} (C0 : Cx p s m args meth c cX7_look 4 RX7 none D cI cJ cZ A) (K6 : Int32 → Int32 → Int32 → MS → Prop) (hK6 : ∀ (x1 : Int32) (x2 : Int32) (x3 : Int32) (S : MS) (H : Heap) (locs : List Loc) (ls : Array Slot), K6 x1 x2 x3 S → Wd (WM ad cI cJ cZ) D A s.heap H locs S → lv_has ls 4 [(0, .ref (ad 0)), (1, .int x1), (2, .int x2), (3, .int x3)] → W p l e rm_X7_look s m args below meth c H locs 0 0 (QV (WM ad cI cJ cZ) D A s args below post) (F0 m 6 ls [])) :
 ∀ (x1 : Int32) (x2 : Int32) (x3 : Int32) (S : MS) (H : Heap) (locs : List Loc) (ls : Array Slot), wp_X7_look_67 K6 post x1 x2 x3 S → Wd (WM ad cI cJ cZ) D A s.heap H locs S → lv_has ls 4 [(0, .ref (ad 0)), (1, .int x1), (2, .int x2), (3, .int x3)] → W p l e rm_X7_look s m args below meth c H locs 0 0 (QV (WM ad cI cJ cZ) D A s args below post) (F0 m 67 ls []) := by
  have hx := C0.1
  have hb := C0.2.1
  intro x1 x2 x3 S H locs ls h hw hl
  unfold wp_X7_look_67 at h
  obtain ⟨x3_1, ex3_1⟩ : ∃ y : Int32, y = x3 + (-1 : Int32) := ⟨_, rfl⟩
  refine lv_iinc (v := x3_1) (lv' := [(3, .int x3_1), (0, .ref (ad 0)), (1, .int x1), (2, .int x2)]) hx hb dX7_look_67 hl (k := 3) rfl (by rw [ex3_1]; rfl) (by decide) rfl (fun ls hl => ?_)
  have h := h x3_1 ex3_1
  refine lv_goto (tgt := 6) hx hb dX7_look_70 (by decide) ?_
  replace hl := lv_sub hl [1, 2, 3, 0] rfl
  exact hK6 x1 x2 x3_1 S _ _ _ h hw hl
set_option maxHeartbeats 4000000 in
set_option maxRecDepth 100000 in
theorem mb_X7_look_120 {p : Program} {l : Launch} {e : Env} {s : State} {m : MethodId} {args : Array Value} {below : List Frame} {meth : Method} {c : Code} {D : va_G} {ad : Nat → Nat} {cI cJ cZ : ClassId} {A : Nat → Prop} {post : MS → Prop} (C0 : Cx p s m args meth c cX7_look 4 RX7 none D cI cJ cZ A) :
 ∀ (x1 : Int32) (S : MS) (H : Heap) (locs : List Loc) (ls : Array Slot), wp_X7_look_120 post x1 S → Wd (WM ad cI cJ cZ) D A s.heap H locs S → lv_has ls 4 [(0, .ref (ad 0)), (1, .int x1)] → W p l e rm_X7_look s m args below meth c H locs 0 0 (QV (WM ad cI cJ cZ) D A s args below post) (F0 m 120 ls []) := by
  have hx := C0.1
  have hb := C0.2.1
  intro x1 S H locs ls h hw hl
  unfold wp_X7_look_120 at h
  refine lv_aload_n hx hb dX7_look_120 rfl (lv_at hl 0 rfl) ?_
  refine lv_iload_n hx hb dX7_look_121 rfl (lv_at hl 1 rfl) ?_
  refine clVI (As := [.int x1]) (rest := []) (ci := 6) (k := 0) C0 (m_X7_lackedBy l D ad cI cJ cZ S x1 _ h) cal_X7_lackedBy kw_346 kw_345 kw_344 rfl rfl rfl rfl hl.1 rfl (Nat.le_of_ble_eq_true rfl) ⟨Nat.le_of_ble_eq_true rfl, Nat.le_of_ble_eq_true rfl⟩ rfl rfl dX7_look_122 hw (fun r122 S122 H locs h hw => ?_)
  replace h := h
  refine lv_iconst (v := -1) hx hb dX7_look_125 (by decide) ?_
  refine lv_icmp_ne (tgt := 130) hx hb dX7_look_126 (by decide) (fun c126 => ?_) (fun c126 => ?_)
  · have h := h.1 c126
    refine lv_aload_n hx hb dX7_look_130 rfl (lv_at hl 0 rfl) ?_
    refine lv_dup hx hb dX7_look_131 rfl ?_
    refine gf_X7_lacking C0 hw dX7_look_132 ?_
    refine lv_iconst (v := 1) hx hb dX7_look_135 (by decide) ?_
    refine lv_iadd hx hb dX7_look_136 ?_
    refine pf_X7_lacking C0 hw dX7_look_137 (fun H locs hw => ?_)
    obtain ⟨S_1, eS_1⟩ : ∃ z, z = sM_lacking S122 ((gM_lacking S122) + (1 : Int32)) := ⟨_, rfl⟩
    rw [← eS_1] at hw
    have h := h S_1 eS_1
    refine lv_aload_n hx hb dX7_look_140 rfl (lv_at hl 0 rfl) ?_
    refine lv_iconst (v := 3) hx hb dX7_look_141 (by decide) ?_
    refine pf_X7_fault C0 hw dX7_look_142 (fun H locs hw => ?_)
    obtain ⟨S_2, eS_2⟩ : ∃ z, z = sM_fault S_1 (3 : Int32) := ⟨_, rfl⟩
    rw [← eS_2] at hw
    have h := h S_2 eS_2
    refine lv_aload_n hx hb dX7_look_145 rfl (lv_at hl 0 rfl) ?_
    refine lv_iload_n hx hb dX7_look_146 rfl (lv_at hl 1 rfl) ?_
    refine pf_X7_faultPoint C0 hw dX7_look_147 (fun H locs hw => ?_)
    obtain ⟨S_3, eS_3⟩ : ∃ z, z = sM_faultP S_2 x1 := ⟨_, rfl⟩
    rw [← eS_3] at hw
    have h := h S_3 eS_3
    exact rtV C0 hw h dX7_look_150
  · have h := h.2 c126
    exact rtV C0 hw h dX7_look_129
set_option maxHeartbeats 4000000 in
set_option maxRecDepth 100000 in
theorem mb_X7_look_88 {p : Program} {l : Launch} {e : Env} {s : State} {m : MethodId} {args : Array Value} {below : List Frame} {meth : Method} {c : Code} {D : va_G} {ad : Nat → Nat} {cI cJ cZ : ClassId} {A : Nat → Prop} {post : MS → Prop} (C0 : Cx p s m args meth c cX7_look 4 RX7 none D cI cJ cZ A) :
 ∀ (x1 : Int32) (x2 : Int32) (k0 : Int32) (k1 : Int32) (S : MS) (H : Heap) (locs : List Loc) (ls : Array Slot), wp_X7_look_88 post x1 x2 k0 k1 S → Wd (WM ad cI cJ cZ) D A s.heap H locs S → lv_has ls 4 [(0, .ref (ad 0)), (1, .int x1), (2, .int x2)] → W p l e rm_X7_look s m args below meth c H locs 0 0 (QV (WM ad cI cJ cZ) D A s args below post) (F0 m 88 ls [.int k0, .int k1, .ref (ad 0)]) := by
  have hx := C0.1
  have hb := C0.2.1
  intro x1 x2 k0 k1 S H locs ls h hw hl
  unfold wp_X7_look_88 at h
  refine lv_iadd hx hb dX7_look_88 ?_
  refine pf_X7_clashing C0 hw dX7_look_89 (fun H locs hw => ?_)
  obtain ⟨S_1, eS_1⟩ : ∃ z, z = sM_clashing S (k1 + k0) := ⟨_, rfl⟩
  rw [← eS_1] at hw
  have h := h S_1 eS_1
  refine lv_iload_n hx hb dX7_look_92 rfl (lv_at hl 2 rfl) ?_
  refine lv_iconst (v := -1) hx hb dX7_look_93 (by decide) ?_
  refine lv_icmp_eq (tgt := 120) hx hb dX7_look_94 (by decide) (fun c94 => ?_) (fun c94 => ?_)
  · have h := h.1 c94
    replace hl := lv_sub hl [0, 1] rfl
    exact mb_X7_look_120 C0 x1 S_1 _ _ ls h hw hl
  · have h := h.2 c94
    refine lv_aload_n hx hb dX7_look_97 rfl (lv_at hl 0 rfl) ?_
    refine gf_X7_fault C0 hw dX7_look_98 ?_
    refine lv_iconst (v := 3) hx hb dX7_look_101 (by decide) ?_
    refine lv_icmp_eq (tgt := 120) hx hb dX7_look_102 (by decide) (fun c102 => ?_) (fun c102 => ?_)
    · have h := h.1 c102
      replace hl := lv_sub hl [0, 1] rfl
      exact mb_X7_look_120 C0 x1 S_1 _ _ ls h hw hl
    · have h := h.2 c102
      refine lv_aload_n hx hb dX7_look_105 rfl (lv_at hl 0 rfl) ?_
      refine lv_iconst (v := 4) hx hb dX7_look_106 (by decide) ?_
      refine pf_X7_fault C0 hw dX7_look_107 (fun H locs hw => ?_)
      obtain ⟨S_2, eS_2⟩ : ∃ z, z = sM_fault S_1 (4 : Int32) := ⟨_, rfl⟩
      rw [← eS_2] at hw
      have h := h S_2 eS_2
      refine lv_aload_n hx hb dX7_look_110 rfl (lv_at hl 0 rfl) ?_
      refine lv_iload_n hx hb dX7_look_111 rfl (lv_at hl 1 rfl) ?_
      refine pf_X7_faultPoint C0 hw dX7_look_112 (fun H locs hw => ?_)
      obtain ⟨S_3, eS_3⟩ : ∃ z, z = sM_faultP S_2 x1 := ⟨_, rfl⟩
      rw [← eS_3] at hw
      have h := h S_3 eS_3
      refine lv_aload_n hx hb dX7_look_115 rfl (lv_at hl 0 rfl) ?_
      refine lv_iload_n hx hb dX7_look_116 rfl (lv_at hl 2 rfl) ?_
      refine pf_X7_otherPoint C0 hw dX7_look_117 (fun H locs hw => ?_)
      obtain ⟨S_4, eS_4⟩ : ∃ z, z = sM_otherP S_3 x2 := ⟨_, rfl⟩
      rw [← eS_4] at hw
      have h := h S_4 eS_4
      replace hl := lv_sub hl [0, 1] rfl
      exact mb_X7_look_120 C0 x1 S_4 _ _ ls h hw hl
set_option maxHeartbeats 4000000 in
set_option maxRecDepth 100000 in
theorem mb_X7_look_6 {p : Program} {l : Launch} {e : Env} {s : State} {m : MethodId} {args : Array Value} {below : List Frame} {meth : Method} {c : Code} {D : va_G} {ad : Nat → Nat} {cI cJ cZ : ClassId} {A : Nat → Prop} {post : MS → Prop} (C0 : Cx p s m args meth c cX7_look 4 RX7 none D cI cJ cZ A) :
 ∀ (n : Nat) (x1 : Int32) (x2 : Int32) (x3 : Int32) (S : MS) (H : Heap) (locs : List Loc) (ls : Array Slot), wp_X7_look_6 post n x1 x2 x3 S → Wd (WM ad cI cJ cZ) D A s.heap H locs S → lv_has ls 4 [(0, .ref (ad 0)), (1, .int x1), (2, .int x2), (3, .int x3)] → W p l e rm_X7_look s m args below meth c H locs 0 0 (QV (WM ad cI cJ cZ) D A s args below post) (F0 m 6 ls []) := by
  have hx := C0.1
  have hb := C0.2.1
  intro n
  induction n with
  | zero => intro x1 x2 x3 S H locs ls h; exact h.elim
  | succ n ih =>
    intro x1 x2 x3 S H locs ls h hw hl
    replace h : ws_X7_look_6 (wp_X7_look_6  post n)  post x1 x2 x3 S := h
    unfold ws_X7_look_6 at h
    refine lv_iload_n hx hb dX7_look_6 rfl (lv_at hl 3 rfl) ?_
    refine lv_if_lt (tgt := 73) hx hb dX7_look_7 (by decide) (fun c7 => ?_) (fun c7 => ?_)
    · have h := h.1 c7
      refine lv_aload_n hx hb dX7_look_73 rfl (lv_at hl 0 rfl) ?_
      refine lv_dup hx hb dX7_look_74 rfl ?_
      refine gf_X7_clashing C0 hw dX7_look_75 ?_
      refine lv_iload_n hx hb dX7_look_78 rfl (lv_at hl 2 rfl) ?_
      refine lv_iconst (v := -1) hx hb dX7_look_79 (by decide) ?_
      refine lv_icmp_eq (tgt := 87) hx hb dX7_look_80 (by decide) (fun c80 => ?_) (fun c80 => ?_)
      · have h := h.1 c80
        refine lv_iconst (v := 0) hx hb dX7_look_87 (by decide) ?_
        replace hl := lv_sub hl [0, 1, 2] rfl
        exact mb_X7_look_88 C0 x1 x2 (0 : Int32) (gM_clashing S) S _ _ ls h hw hl
      · have h := h.2 c80
        refine lv_iconst (v := 1) hx hb dX7_look_83 (by decide) ?_
        refine lv_goto (tgt := 88) hx hb dX7_look_84 (by decide) ?_
        replace hl := lv_sub hl [0, 1, 2] rfl
        exact mb_X7_look_88 C0 x1 x2 (1 : Int32) (gM_clashing S) S _ _ ls h hw hl
    · have h := h.2 c7
      refine lv_aload_n hx hb dX7_look_10 rfl (lv_at hl 0 rfl) ?_
      refine gf_X7_rowOf C0 hw dX7_look_11 ?_
      refine lv_iload_n hx hb dX7_look_14 rfl (lv_at hl 3 rfl) ?_
      refine ld_M_rowOf C0 hw h.1 dX7_look_15 ?_
      have h := h.2
      refine lv_iconst (v := -1) hx hb dX7_look_16 (by decide) ?_
      refine lv_icmp_ne (tgt := 23) hx hb dX7_look_17 (by decide) (fun c17 => ?_) (fun c17 => ?_)
      · have h := h.1 c17
        refine lv_aload_n hx hb dX7_look_23 rfl (lv_at hl 0 rfl) ?_
        refine gf_X7_force C0 hw dX7_look_24 ?_
        refine lv_sipush (v := 150) hx hb dX7_look_27 (by decide) ?_
        refine lv_iload_n hx hb dX7_look_30 rfl (lv_at hl 3 rfl) ?_
        refine lv_imul hx hb dX7_look_31 ?_
        refine lv_iload_n hx hb dX7_look_32 rfl (lv_at hl 1 rfl) ?_
        refine lv_iadd hx hb dX7_look_33 ?_
        refine lv_aload_n hx hb dX7_look_34 rfl (lv_at hl 0 rfl) ?_
        refine lv_iload_n hx hb dX7_look_35 rfl (lv_at hl 3 rfl) ?_
        refine lv_iload_n hx hb dX7_look_36 rfl (lv_at hl 1 rfl) ?_
        refine clVI (As := [.int x3, .int x1]) (rest := [.int (((150 : Int32) * x3) + x1), .ref (ad 14)]) (ci := 6) (k := 0) C0 (m_X7_isInForce l D ad cI cJ cZ S x3 x1 _ h) cal_X7_isInForce kw_358 kw_357 kw_356 rfl rfl rfl rfl hl.1 rfl (Nat.le_of_ble_eq_true rfl) ⟨Nat.le_of_ble_eq_true rfl, Nat.le_of_ble_eq_true rfl⟩ rfl rfl dX7_look_37 hw (fun r37 S37 H locs h hw => ?_)
        replace h := h
        refine st_M_force C0 hw h.1 dX7_look_40 (fun H locs hw => ?_)
        have h := h.2
        obtain ⟨S_1, eS_1⟩ : ∃ z, z = sM_force S37 (upd (gM_force S37) (((150 : Int32) * x3) + x1).toNatClampNeg (vp_nar .boolean r37)) := ⟨_, rfl⟩
        rw [← eS_1] at hw
        have h := h S_1 eS_1
        refine lv_aload_n hx hb dX7_look_41 rfl (lv_at hl 0 rfl) ?_
        refine gf_X7_force C0 hw dX7_look_42 ?_
        refine lv_sipush (v := 150) hx hb dX7_look_45 (by decide) ?_
        refine lv_iload_n hx hb dX7_look_48 rfl (lv_at hl 3 rfl) ?_
        refine lv_imul hx hb dX7_look_49 ?_
        refine lv_iload_n hx hb dX7_look_50 rfl (lv_at hl 1 rfl) ?_
        refine lv_iadd hx hb dX7_look_51 ?_
        refine ld_M_force C0 hw h.1 dX7_look_52 ?_
        have h := h.2
        refine lv_if_eq (tgt := 67) hx hb dX7_look_53 (by decide) (fun c53 => ?_) (fun c53 => ?_)
        · have h := h.1 c53
          replace hl := lv_sub hl [0, 1, 2, 3] rfl
          exact mb_X7_look_67 C0 _ ih x1 x2 x3 S_1 _ _ ls h hw hl
        · have h := h.2 c53
          refine lv_aload_n hx hb dX7_look_56 rfl (lv_at hl 0 rfl) ?_
          refine lv_iload_n hx hb dX7_look_57 rfl (lv_at hl 3 rfl) ?_
          refine lv_iload_n hx hb dX7_look_58 rfl (lv_at hl 1 rfl) ?_
          refine clVI (As := [.int x3, .int x1]) (rest := []) (ci := 6) (k := 0) C0 (m_X7_clashes l D ad cI cJ cZ S_1 x3 x1 _ h) cal_X7_clashes kw_363 kw_362 kw_361 rfl rfl rfl rfl hl.1 rfl (Nat.le_of_ble_eq_true rfl) ⟨Nat.le_of_ble_eq_true rfl, Nat.le_of_ble_eq_true rfl⟩ rfl rfl dX7_look_59 hw (fun r59 S59 H locs h hw => ?_)
          replace h := h
          refine lv_if_eq (tgt := 67) hx hb dX7_look_62 (by decide) (fun c62 => ?_) (fun c62 => ?_)
          · have h := h.1 c62
            replace hl := lv_sub hl [0, 1, 2, 3] rfl
            exact mb_X7_look_67 C0 _ ih x1 x2 x3 S59 _ _ ls h hw hl
          · have h := h.2 c62
            refine lv_iload_n hx hb dX7_look_65 rfl (lv_at hl 3 rfl) ?_
            refine lv_istore_n (lv' := [(2, .int x3), (0, .ref (ad 0)), (1, .int x1), (3, .int x3)]) hx hb dX7_look_66 rfl hl (by decide) rfl (fun ls hl => ?_)
            replace hl := lv_sub hl [1, 2, 0, 3] rfl
            exact mb_X7_look_67 C0 _ ih x1 x3 x3 S59 _ _ ls h hw hl
      · have h := h.2 c17
        refine lv_goto (tgt := 67) hx hb dX7_look_20 (by decide) ?_
        replace hl := lv_sub hl [0, 1, 2, 3] rfl
        exact mb_X7_look_67 C0 _ ih x1 x2 x3 S _ _ ls h hw hl
set_option maxHeartbeats 4000000 in
set_option maxRecDepth 100000 in
theorem m_X7_look (l : Launch) (D : va_G) (ad : Nat → Nat) (cI cJ cZ : ClassId) (S : MS) (x1 : Int32) (post : MS → Prop) (h : wp_X7_look S x1 post) : CV (WM ad cI cJ cZ) D cI cJ cZ l yX7_look (.code yX7_look cX7_look 4 none :: gt) rm_X7_look S [.ref (ad 0), .int x1] post := by
  refine enV (by decide) (Nat.le_of_ble_eq_true rfl) ?_
  intro p e s m below meth c A ls C0 hw hl
  have C0 : Cx p s m _ meth c cX7_look 4 RX7 none D cI cJ cZ A := C0
  have hl : lv_has ls 4 [(0, .ref (ad 0)), (1, .int x1)] := hl
  have hx := C0.1
  have hb := C0.2.1
  unfold wp_X7_look at h
  refine lv_iconst (v := -1) hx hb dX7_look_0 (by decide) ?_
  refine lv_istore_n (lv' := [(2, .int (-1 : Int32)), (0, .ref (ad 0)), (1, .int x1)]) hx hb dX7_look_1 rfl hl (by decide) rfl (fun ls hl => ?_)
  refine lv_sipush (v := 149) hx hb dX7_look_2 (by decide) ?_
  refine lv_istore_n (lv' := [(3, .int (149 : Int32)), (2, .int (-1 : Int32)), (0, .ref (ad 0)), (1, .int x1)]) hx hb dX7_look_5 rfl hl (by decide) rfl (fun ls hl => ?_)
  replace hl := lv_sub hl [2, 3, 1, 0] rfl
  obtain ⟨n, h⟩ := h
  exact mb_X7_look_6 C0 n x1 (-1 : Int32) (149 : Int32) S _ _ ls h hw hl
abbrev rm_X7_makesLoan : Room := { frames := 1, cells := 0, slots := 0, locals := 22 }
set_option maxHeartbeats 4000000 in
set_option maxRecDepth 100000 in
theorem m_X7_makesLoan (l : Launch) (D : va_G) (ad : Nat → Nat) (cI cJ cZ : ClassId) (S : MS) (x1 : Int32) (post : Int32 → MS → Prop) (h : wp_X7_makesLoan S x1 post) : CI (WM ad cI cJ cZ) D cI cJ cZ l yX7_makesLoan (.code yX7_makesLoan cX7_makesLoan 2 (some .boolean) :: gt) rm_X7_makesLoan S [.ref (ad 0), .int x1] post := by
  refine enI (by decide) (Nat.le_of_ble_eq_true rfl) ?_
  intro p e s m below meth c A ls C0 hw hl
  have C0 : Cx p s m _ meth c cX7_makesLoan 2 RX7 (some .boolean) D cI cJ cZ A := C0
  have hl : lv_has ls 2 [(0, .ref (ad 0)), (1, .int x1)] := hl
  have hx := C0.1
  have hb := C0.2.1
  unfold wp_X7_makesLoan at h
  refine lv_aload_n hx hb dX7_makesLoan_0 rfl (lv_at hl 0 rfl) ?_
  refine gf_X7_acts C0 hw dX7_makesLoan_1 ?_
  refine lv_iload_n hx hb dX7_makesLoan_4 rfl (lv_at hl 1 rfl) ?_
  refine ld_M_acts C0 hw h.1 dX7_makesLoan_5 ?_
  have h := h.2
  refine lv_bipush (v := 7) hx hb dX7_makesLoan_6 (by decide) ?_
  refine lv_icmp_ne (tgt := 49) hx hb dX7_makesLoan_8 (by decide) (fun c8 => ?_) (fun c8 => ?_)
  · have h := h.1 c8
    refine lv_iconst (v := 0) hx hb dX7_makesLoan_49 (by decide) ?_
    exact rtZ C0 hw rfl h dX7_makesLoan_50
  · have h := h.2 c8
    refine lv_aload_n hx hb dX7_makesLoan_11 rfl (lv_at hl 0 rfl) ?_
    refine lv_aload_n hx hb dX7_makesLoan_12 rfl (lv_at hl 0 rfl) ?_
    refine gf_X7_of C0 hw dX7_makesLoan_13 ?_
    refine lv_iload_n hx hb dX7_makesLoan_16 rfl (lv_at hl 1 rfl) ?_
    refine ld_M_of C0 hw h.1 dX7_makesLoan_17 ?_
    have h := h.2
    refine lv_aload_n hx hb dX7_makesLoan_18 rfl (lv_at hl 0 rfl) ?_
    refine gf_X7_path C0 hw dX7_makesLoan_19 ?_
    refine lv_iload_n hx hb dX7_makesLoan_22 rfl (lv_at hl 1 rfl) ?_
    refine ld_M_path C0 hw h.1 dX7_makesLoan_23 ?_
    have h := h.2
    refine clVI (As := [.int (gM_of S (x1).toNatClampNeg), .int (gM_path S (x1).toNatClampNeg)]) (rest := []) (ci := 6) (k := 0) C0 (m_X7_isThrough l D ad cI cJ cZ S (gM_of S (x1).toNatClampNeg) (gM_path S (x1).toNatClampNeg) _ h) cal_X7_isThrough kw_316 kw_315 kw_314 rfl rfl rfl rfl hl.1 rfl (Nat.le_of_ble_eq_true rfl) ⟨Nat.le_of_ble_eq_true rfl, Nat.le_of_ble_eq_true rfl⟩ rfl rfl dX7_makesLoan_24 hw (fun r24 S24 H locs h hw => ?_)
    replace h := h
    refine lv_if_eq (tgt := 45) hx hb dX7_makesLoan_27 (by decide) (fun c27 => ?_) (fun c27 => ?_)
    · have h := h.1 c27
      refine lv_iconst (v := 1) hx hb dX7_makesLoan_45 (by decide) ?_
      refine lv_goto (tgt := 50) hx hb dX7_makesLoan_46 (by decide) ?_
      exact rtZ C0 hw rfl h dX7_makesLoan_50
    · have h := h.2 c27
      refine lv_aload_n hx hb dX7_makesLoan_30 rfl (lv_at hl 0 rfl) ?_
      refine gf_X7_sort C0 hw dX7_makesLoan_31 ?_
      refine lv_aload_n hx hb dX7_makesLoan_34 rfl (lv_at hl 0 rfl) ?_
      refine gf_X7_of C0 hw dX7_makesLoan_35 ?_
      refine lv_iload_n hx hb dX7_makesLoan_38 rfl (lv_at hl 1 rfl) ?_
      refine ld_M_of C0 hw h.1 dX7_makesLoan_39 ?_
      have h := h.2
      refine ld_M_sort C0 hw h.1 dX7_makesLoan_40 ?_
      have h := h.2
      refine lv_iconst (v := 1) hx hb dX7_makesLoan_41 (by decide) ?_
      refine lv_icmp_eq (tgt := 49) hx hb dX7_makesLoan_42 (by decide) (fun c42 => ?_) (fun c42 => ?_)
      · have h := h.1 c42
        refine lv_iconst (v := 0) hx hb dX7_makesLoan_49 (by decide) ?_
        exact rtZ C0 hw rfl h dX7_makesLoan_50
      · have h := h.2 c42
        refine lv_iconst (v := 1) hx hb dX7_makesLoan_45 (by decide) ?_
        refine lv_goto (tgt := 50) hx hb dX7_makesLoan_46 (by decide) ?_
        exact rtZ C0 hw rfl h dX7_makesLoan_50
abbrev rm_X7_spread : Room := { frames := 1, cells := 0, slots := 0, locals := 23 }
set_option maxHeartbeats 4000000 in
set_option maxRecDepth 100000 in
theorem mb_X7_spread_97 {p : Program} {l : Launch} {e : Env} {s : State} {m : MethodId} {args : Array Value} {below : List Frame} {meth : Method} {c : Code} {D : va_G} {ad : Nat → Nat} {cI cJ cZ : ClassId} {A : Nat → Prop} {post : MS → Prop} (C0 : Cx p s m args meth c cX7_spread 7 RX7 none D cI cJ cZ A) (K11 : Int32 → Int32 → Int32 → Int32 → MS → Prop) (hK11 : ∀ (x2 : Int32) (x3 : Int32) (x4 : Int32) (x5 : Int32) (S : MS) (H : Heap) (locs : List Loc) (ls : Array Slot), K11 x2 x3 x4 x5 S → Wd (WM ad cI cJ cZ) D A s.heap H locs S → lv_has ls 7 [(0, .ref (ad 0)), (2, .int x2), (3, .int x3), (4, .int x4), (5, .int x5)] → W p l e rm_X7_spread s m args below meth c H locs 0 0 (QV (WM ad cI cJ cZ) D A s args below post) (F0 m 11 ls [])) :
 ∀ (x2 : Int32) (x3 : Int32) (x4 : Int32) (x5 : Int32) (S : MS) (H : Heap) (locs : List Loc) (ls : Array Slot), wp_X7_spread_97 K11 post x2 x3 x4 x5 S → Wd (WM ad cI cJ cZ) D A s.heap H locs S → lv_has ls 7 [(0, .ref (ad 0)), (2, .int x2), (3, .int x3), (4, .int x4), (5, .int x5)] → W p l e rm_X7_spread s m args below meth c H locs 0 0 (QV (WM ad cI cJ cZ) D A s args below post) (F0 m 97 ls []) := by
  have hx := C0.1
  have hb := C0.2.1
  intro x2 x3 x4 x5 S H locs ls h hw hl
  unfold wp_X7_spread_97 at h
  obtain ⟨x5_1, ex5_1⟩ : ∃ y : Int32, y = x5 + (1 : Int32) := ⟨_, rfl⟩
  refine lv_iinc (v := x5_1) (lv' := [(5, .int x5_1), (0, .ref (ad 0)), (2, .int x2), (3, .int x3), (4, .int x4)]) hx hb dX7_spread_97 hl (k := 4) rfl (by rw [ex5_1]; rfl) (by decide) rfl (fun ls hl => ?_)
  have h := h x5_1 ex5_1
  refine lv_goto (tgt := 11) hx hb dX7_spread_100 (by decide) ?_
  replace hl := lv_sub hl [1, 2, 3, 4, 0] rfl
  exact hK11 x2 x3 x4 x5_1 S _ _ _ h hw hl
set_option maxHeartbeats 4000000 in
set_option maxRecDepth 100000 in
theorem mb_X7_spread_11 {p : Program} {l : Launch} {e : Env} {s : State} {m : MethodId} {args : Array Value} {below : List Frame} {meth : Method} {c : Code} {D : va_G} {ad : Nat → Nat} {cI cJ cZ : ClassId} {A : Nat → Prop} {post : MS → Prop} (C0 : Cx p s m args meth c cX7_spread 7 RX7 none D cI cJ cZ A) :
 ∀ (n : Nat) (x2 : Int32) (x3 : Int32) (x4 : Int32) (x5 : Int32) (S : MS) (H : Heap) (locs : List Loc) (ls : Array Slot), wp_X7_spread_11 post n x2 x3 x4 x5 S → Wd (WM ad cI cJ cZ) D A s.heap H locs S → lv_has ls 7 [(0, .ref (ad 0)), (2, .int x2), (3, .int x3), (4, .int x4), (5, .int x5)] → W p l e rm_X7_spread s m args below meth c H locs 0 0 (QV (WM ad cI cJ cZ) D A s args below post) (F0 m 11 ls []) := by
  have hx := C0.1
  have hb := C0.2.1
  intro n
  induction n with
  | zero => intro x2 x3 x4 x5 S H locs ls h; exact h.elim
  | succ n ih =>
    intro x2 x3 x4 x5 S H locs ls h hw hl
    replace h : ws_X7_spread_11 (wp_X7_spread_11  post n)  post x2 x3 x4 x5 S := h
    unfold ws_X7_spread_11 at h
    refine lv_iload hx hb dX7_spread_11 (lv_at hl 4 rfl) ?_
    refine lv_iconst (v := 4) hx hb dX7_spread_13 (by decide) ?_
    refine lv_icmp_ge (tgt := 103) hx hb dX7_spread_14 (by decide) (fun c14 => ?_) (fun c14 => ?_)
    · have h := h.1 c14
      exact rtV C0 hw h dX7_spread_103
    · have h := h.2 c14
      refine lv_aload_n hx hb dX7_spread_17 rfl (lv_at hl 0 rfl) ?_
      refine gf_X7_nexts C0 hw dX7_spread_18 ?_
      refine lv_iconst (v := 4) hx hb dX7_spread_21 (by decide) ?_
      refine lv_iload_n hx hb dX7_spread_22 rfl (lv_at hl 1 rfl) ?_
      refine lv_imul hx hb dX7_spread_23 ?_
      refine lv_iload hx hb dX7_spread_24 (lv_at hl 4 rfl) ?_
      refine lv_iadd hx hb dX7_spread_26 ?_
      refine ld_M_nexts C0 hw h.1 dX7_spread_27 ?_
      have h := h.2
      refine lv_topi (fun x6_1 ex6_1 => ?_)
      have h := h x6_1 ex6_1
      refine lv_istore (lv' := [(6, .int x6_1), (0, .ref (ad 0)), (2, .int x2), (3, .int x3), (4, .int x4), (5, .int x5)]) hx hb dX7_spread_28 hl (by decide) rfl (fun ls hl => ?_)
      refine lv_iload hx hb dX7_spread_30 (lv_at hl 0 rfl) ?_
      refine lv_iconst (v := -1) hx hb dX7_spread_32 (by decide) ?_
      refine lv_icmp_eq (tgt := 97) hx hb dX7_spread_33 (by decide) (fun c33 => ?_) (fun c33 => ?_)
      · have h := h.1 c33
        replace hl := lv_sub hl [1, 2, 3, 4, 5] rfl
        exact mb_X7_spread_97 C0 _ ih x2 x3 x4 x5 S _ _ ls h hw hl
      · have h := h.2 c33
        refine lv_aload_n hx hb dX7_spread_36 rfl (lv_at hl 1 rfl) ?_
        refine gf_X7_holds C0 hw dX7_spread_37 ?_
        refine lv_aload_n hx hb dX7_spread_40 rfl (lv_at hl 1 rfl) ?_
        refine lv_iload hx hb dX7_spread_41 (lv_at hl 4 rfl) ?_
        refine lv_iload hx hb dX7_spread_43 (lv_at hl 0 rfl) ?_
        refine lv_iload_n hx hb dX7_spread_45 rfl (lv_at hl 3 rfl) ?_
        refine clVI (As := [.int x4, .int x6_1, .int x3]) (rest := [.ref (ad 12)]) (ci := 6) (k := 0) C0 (m_X7_cell l D ad cI cJ cZ S x4 x6_1 x3 _ h) cal_X7_cell kw_352 kw_351 kw_350 rfl rfl rfl rfl hl.1 rfl (Nat.le_of_ble_eq_true rfl) ⟨Nat.le_of_ble_eq_true rfl, Nat.le_of_ble_eq_true rfl⟩ rfl rfl dX7_spread_46 hw (fun r46 S46 H locs h hw => ?_)
        replace h := h
        refine ld_M_holds C0 hw h.1 dX7_spread_49 ?_
        have h := h.2
        refine lv_if_eq (tgt := 56) hx hb dX7_spread_50 (by decide) (fun c50 => ?_) (fun c50 => ?_)
        · have h := h.1 c50
          refine lv_aload_n hx hb dX7_spread_56 rfl (lv_at hl 1 rfl) ?_
          refine gf_X7_holds C0 hw dX7_spread_57 ?_
          refine lv_aload_n hx hb dX7_spread_60 rfl (lv_at hl 1 rfl) ?_
          refine lv_iload hx hb dX7_spread_61 (lv_at hl 4 rfl) ?_
          refine lv_iload hx hb dX7_spread_63 (lv_at hl 0 rfl) ?_
          refine lv_iload_n hx hb dX7_spread_65 rfl (lv_at hl 3 rfl) ?_
          refine clVI (As := [.int x4, .int x6_1, .int x3]) (rest := [.ref (ad 12)]) (ci := 6) (k := 0) C0 (m_X7_cell l D ad cI cJ cZ S46 x4 x6_1 x3 _ h) cal_X7_cell kw_352 kw_351 kw_350 rfl rfl rfl rfl hl.1 rfl (Nat.le_of_ble_eq_true rfl) ⟨Nat.le_of_ble_eq_true rfl, Nat.le_of_ble_eq_true rfl⟩ rfl rfl dX7_spread_66 hw (fun r66 S66 H locs h hw => ?_)
          replace h := h
          refine lv_iconst (v := 1) hx hb dX7_spread_69 (by decide) ?_
          refine st_M_holds C0 hw h.1 dX7_spread_70 (fun H locs hw => ?_)
          have h := h.2
          obtain ⟨S_2, eS_2⟩ : ∃ z, z = sM_holds S66 (upd (gM_holds S66) (r66).toNatClampNeg (vp_nar .boolean (1 : Int32))) := ⟨_, rfl⟩
          rw [← eS_2] at hw
          have h := h S_2 eS_2
          refine lv_aload_n hx hb dX7_spread_71 rfl (lv_at hl 1 rfl) ?_
          refine gf_X7_pile C0 hw dX7_spread_72 ?_
          refine lv_aload_n hx hb dX7_spread_75 rfl (lv_at hl 1 rfl) ?_
          refine gf_X7_piled C0 hw dX7_spread_76 ?_
          refine lv_bipush (v := 16) hx hb dX7_spread_79 (by decide) ?_
          refine lv_iload hx hb dX7_spread_81 (lv_at hl 0 rfl) ?_
          refine lv_imul hx hb dX7_spread_83 ?_
          refine lv_iload_n hx hb dX7_spread_84 rfl (lv_at hl 3 rfl) ?_
          refine lv_iadd hx hb dX7_spread_85 ?_
          refine st_M_pile C0 hw h.1 dX7_spread_86 (fun H locs hw => ?_)
          have h := h.2
          obtain ⟨S_3, eS_3⟩ : ∃ z, z = sM_pile S_2 (upd (gM_pile S_2) (gM_piled S_2).toNatClampNeg (((16 : Int32) * x6_1) + x3)) := ⟨_, rfl⟩
          rw [← eS_3] at hw
          have h := h S_3 eS_3
          refine lv_aload_n hx hb dX7_spread_87 rfl (lv_at hl 1 rfl) ?_
          refine lv_dup hx hb dX7_spread_88 rfl ?_
          refine gf_X7_piled C0 hw dX7_spread_89 ?_
          refine lv_iconst (v := 1) hx hb dX7_spread_92 (by decide) ?_
          refine lv_iadd hx hb dX7_spread_93 ?_
          refine pf_X7_piled C0 hw dX7_spread_94 (fun H locs hw => ?_)
          obtain ⟨S_4, eS_4⟩ : ∃ z, z = sM_piled S_3 ((gM_piled S_3) + (1 : Int32)) := ⟨_, rfl⟩
          rw [← eS_4] at hw
          have h := h S_4 eS_4
          replace hl := lv_sub hl [1, 2, 3, 4, 5] rfl
          exact mb_X7_spread_97 C0 _ ih x2 x3 x4 x5 S_4 _ _ ls h hw hl
        · have h := h.2 c50
          refine lv_goto (tgt := 97) hx hb dX7_spread_53 (by decide) ?_
          replace hl := lv_sub hl [1, 2, 3, 4, 5] rfl
          exact mb_X7_spread_97 C0 _ ih x2 x3 x4 x5 S46 _ _ ls h hw hl
set_option maxHeartbeats 4000000 in
set_option maxRecDepth 100000 in
theorem m_X7_spread (l : Launch) (D : va_G) (ad : Nat → Nat) (cI cJ cZ : ClassId) (S : MS) (x1 : Int32) (x2 : Int32) (x3 : Int32) (post : MS → Prop) (h : wp_X7_spread S x1 x2 x3 post) : CV (WM ad cI cJ cZ) D cI cJ cZ l yX7_spread (.code yX7_spread cX7_spread 7 none :: gt) rm_X7_spread S [.ref (ad 0), .int x1, .int x2, .int x3] post := by
  refine enV (by decide) (Nat.le_of_ble_eq_true rfl) ?_
  intro p e s m below meth c A ls C0 hw hl
  have C0 : Cx p s m _ meth c cX7_spread 7 RX7 none D cI cJ cZ A := C0
  have hl : lv_has ls 7 [(0, .ref (ad 0)), (1, .int x1), (2, .int x2), (3, .int x3)] := hl
  have hx := C0.1
  have hb := C0.2.1
  unfold wp_X7_spread at h
  refine lv_aload_n hx hb dX7_spread_0 rfl (lv_at hl 0 rfl) ?_
  refine gf_X7_rowOf C0 hw dX7_spread_1 ?_
  refine lv_iload_n hx hb dX7_spread_4 rfl (lv_at hl 1 rfl) ?_
  refine ld_M_rowOf C0 hw h.1 dX7_spread_5 ?_
  have h := h.2
  refine lv_topi (fun x4_1 ex4_1 => ?_)
  have h := h x4_1 ex4_1
  refine lv_istore (lv' := [(4, .int x4_1), (0, .ref (ad 0)), (1, .int x1), (2, .int x2), (3, .int x3)]) hx hb dX7_spread_6 hl (by decide) rfl (fun ls hl => ?_)
  refine lv_iconst (v := 0) hx hb dX7_spread_8 (by decide) ?_
  refine lv_istore (lv' := [(5, .int (0 : Int32)), (4, .int x4_1), (0, .ref (ad 0)), (1, .int x1), (2, .int x2), (3, .int x3)]) hx hb dX7_spread_9 hl (by decide) rfl (fun ls hl => ?_)
  replace hl := lv_sub hl [2, 4, 5, 1, 0] rfl
  obtain ⟨n, h⟩ := h
  exact mb_X7_spread_11 C0 n x2 x3 x4_1 (0 : Int32) S _ _ ls h hw hl
abbrev rm_X7_renewed : Room := { frames := 0, cells := 0, slots := 0, locals := 0 }
set_option maxHeartbeats 4000000 in
set_option maxRecDepth 100000 in
theorem mb_X7_renewed_22 {p : Program} {l : Launch} {e : Env} {s : State} {m : MethodId} {args : Array Value} {below : List Frame} {meth : Method} {c : Code} {D : va_G} {ad : Nat → Nat} {cI cJ cZ : ClassId} {A : Nat → Prop} {post : Int32 → MS → Prop} (C0 : Cx p s m args meth c cX7_renewed 2 RX7 (some .int) D cI cJ cZ A) :
 ∀ (x1 : Int32) (S : MS) (H : Heap) (locs : List Loc) (ls : Array Slot), wp_X7_renewed_22 post x1 S → Wd (WM ad cI cJ cZ) D A s.heap H locs S → lv_has ls 2 [(0, .ref (ad 0)), (1, .int x1)] → W p l e rm_X7_renewed s m args below meth c H locs 0 0 (QI (WM ad cI cJ cZ) D A s args below post) (F0 m 22 ls []) := by
  have hx := C0.1
  have hb := C0.2.1
  intro x1 S H locs ls h hw hl
  unfold wp_X7_renewed_22 at h
  refine lv_aload_n hx hb dX7_renewed_22 rfl (lv_at hl 0 rfl) ?_
  refine gf_X7_to C0 hw dX7_renewed_23 ?_
  refine lv_iload_n hx hb dX7_renewed_26 rfl (lv_at hl 1 rfl) ?_
  refine ld_M_to C0 hw h.1 dX7_renewed_27 ?_
  have h := h.2
  refine lv_goto (tgt := 65) hx hb dX7_renewed_28 (by decide) ?_
  exact rtI C0 hw h dX7_renewed_65
set_option maxHeartbeats 4000000 in
set_option maxRecDepth 100000 in
theorem m_X7_renewed (l : Launch) (D : va_G) (ad : Nat → Nat) (cI cJ cZ : ClassId) (S : MS) (x1 : Int32) (post : Int32 → MS → Prop) (h : wp_X7_renewed S x1 post) : CI (WM ad cI cJ cZ) D cI cJ cZ l yX7_renewed (.code yX7_renewed cX7_renewed 2 (some .int) :: gt) rm_X7_renewed S [.ref (ad 0), .int x1] post := by
  refine enI (by decide) (Nat.le_of_ble_eq_true rfl) ?_
  intro p e s m below meth c A ls C0 hw hl
  have C0 : Cx p s m _ meth c cX7_renewed 2 RX7 (some .int) D cI cJ cZ A := C0
  have hl : lv_has ls 2 [(0, .ref (ad 0)), (1, .int x1)] := hl
  have hx := C0.1
  have hb := C0.2.1
  unfold wp_X7_renewed at h
  refine lv_aload_n hx hb dX7_renewed_0 rfl (lv_at hl 0 rfl) ?_
  refine gf_X7_acts C0 hw dX7_renewed_1 ?_
  refine lv_iload_n hx hb dX7_renewed_4 rfl (lv_at hl 1 rfl) ?_
  refine ld_M_acts C0 hw h.1 dX7_renewed_5 ?_
  have h := h.2
  refine lv_bipush (v := 7) hx hb dX7_renewed_6 (by decide) ?_
  refine lv_icmp_eq (tgt := 22) hx hb dX7_renewed_8 (by decide) (fun c8 => ?_) (fun c8 => ?_)
  · have h := h.1 c8
    replace hl := lv_sub hl [0, 1] rfl
    exact mb_X7_renewed_22 C0 x1 S _ _ ls h hw hl
  · have h := h.2 c8
    refine lv_aload_n hx hb dX7_renewed_11 rfl (lv_at hl 0 rfl) ?_
    refine gf_X7_acts C0 hw dX7_renewed_12 ?_
    refine lv_iload_n hx hb dX7_renewed_15 rfl (lv_at hl 1 rfl) ?_
    refine ld_M_acts C0 hw h.1 dX7_renewed_16 ?_
    have h := h.2
    refine lv_bipush (v := 8) hx hb dX7_renewed_17 (by decide) ?_
    refine lv_icmp_ne (tgt := 31) hx hb dX7_renewed_19 (by decide) (fun c19 => ?_) (fun c19 => ?_)
    · have h := h.1 c19
      refine lv_aload_n hx hb dX7_renewed_31 rfl (lv_at hl 0 rfl) ?_
      refine gf_X7_acts C0 hw dX7_renewed_32 ?_
      refine lv_iload_n hx hb dX7_renewed_35 rfl (lv_at hl 1 rfl) ?_
      refine ld_M_acts C0 hw h.1 dX7_renewed_36 ?_
      have h := h.2
      refine lv_iconst (v := 5) hx hb dX7_renewed_37 (by decide) ?_
      refine lv_icmp_ne (tgt := 64) hx hb dX7_renewed_38 (by decide) (fun c38 => ?_) (fun c38 => ?_)
      · have h := h.1 c38
        refine lv_iconst (v := -1) hx hb dX7_renewed_64 (by decide) ?_
        exact rtI C0 hw h dX7_renewed_65
      · have h := h.2 c38
        refine lv_aload_n hx hb dX7_renewed_41 rfl (lv_at hl 0 rfl) ?_
        refine gf_X7_sort C0 hw dX7_renewed_42 ?_
        refine lv_aload_n hx hb dX7_renewed_45 rfl (lv_at hl 0 rfl) ?_
        refine gf_X7_of C0 hw dX7_renewed_46 ?_
        refine lv_iload_n hx hb dX7_renewed_49 rfl (lv_at hl 1 rfl) ?_
        refine ld_M_of C0 hw h.1 dX7_renewed_50 ?_
        have h := h.2
        refine ld_M_sort C0 hw h.1 dX7_renewed_51 ?_
        have h := h.2
        refine lv_if_eq (tgt := 64) hx hb dX7_renewed_52 (by decide) (fun c52 => ?_) (fun c52 => ?_)
        · have h := h.1 c52
          refine lv_iconst (v := -1) hx hb dX7_renewed_64 (by decide) ?_
          exact rtI C0 hw h dX7_renewed_65
        · have h := h.2 c52
          refine lv_aload_n hx hb dX7_renewed_55 rfl (lv_at hl 0 rfl) ?_
          refine gf_X7_of C0 hw dX7_renewed_56 ?_
          refine lv_iload_n hx hb dX7_renewed_59 rfl (lv_at hl 1 rfl) ?_
          refine ld_M_of C0 hw h.1 dX7_renewed_60 ?_
          have h := h.2
          refine lv_goto (tgt := 65) hx hb dX7_renewed_61 (by decide) ?_
          exact rtI C0 hw h dX7_renewed_65
    · have h := h.2 c19
      replace hl := lv_sub hl [0, 1] rfl
      exact mb_X7_renewed_22 C0 x1 S _ _ ls h hw hl
abbrev rm_X7_goesThrough : Room := { frames := 1, cells := 0, slots := 0, locals := 22 }
set_option maxHeartbeats 4000000 in
set_option maxRecDepth 100000 in
theorem m_X7_goesThrough (l : Launch) (D : va_G) (ad : Nat → Nat) (cI cJ cZ : ClassId) (S : MS) (x1 : Int32) (x2 : Int32) (post : Int32 → MS → Prop) (h : wp_X7_goesThrough S x1 x2 post) : CI (WM ad cI cJ cZ) D cI cJ cZ l yX7_goesThrough (.code yX7_goesThrough cX7_goesThrough 3 (some .boolean) :: gt) rm_X7_goesThrough S [.ref (ad 0), .int x1, .int x2] post := by
  refine enI (by decide) (Nat.le_of_ble_eq_true rfl) ?_
  intro p e s m below meth c A ls C0 hw hl
  have C0 : Cx p s m _ meth c cX7_goesThrough 3 RX7 (some .boolean) D cI cJ cZ A := C0
  have hl : lv_has ls 3 [(0, .ref (ad 0)), (1, .int x1), (2, .int x2)] := hl
  have hx := C0.1
  have hb := C0.2.1
  unfold wp_X7_goesThrough at h
  refine lv_aload_n hx hb dX7_goesThrough_0 rfl (lv_at hl 0 rfl) ?_
  refine gf_X7_of C0 hw dX7_goesThrough_1 ?_
  refine lv_iload_n hx hb dX7_goesThrough_4 rfl (lv_at hl 1 rfl) ?_
  refine ld_M_of C0 hw h.1 dX7_goesThrough_5 ?_
  have h := h.2
  refine lv_iload_n hx hb dX7_goesThrough_6 rfl (lv_at hl 2 rfl) ?_
  refine lv_icmp_ne (tgt := 28) hx hb dX7_goesThrough_7 (by decide) (fun c7 => ?_) (fun c7 => ?_)
  · have h := h.1 c7
    refine lv_iconst (v := 0) hx hb dX7_goesThrough_28 (by decide) ?_
    exact rtZ C0 hw rfl h dX7_goesThrough_29
  · have h := h.2 c7
    refine lv_aload_n hx hb dX7_goesThrough_10 rfl (lv_at hl 0 rfl) ?_
    refine lv_iload_n hx hb dX7_goesThrough_11 rfl (lv_at hl 2 rfl) ?_
    refine lv_aload_n hx hb dX7_goesThrough_12 rfl (lv_at hl 0 rfl) ?_
    refine gf_X7_path C0 hw dX7_goesThrough_13 ?_
    refine lv_iload_n hx hb dX7_goesThrough_16 rfl (lv_at hl 1 rfl) ?_
    refine ld_M_path C0 hw h.1 dX7_goesThrough_17 ?_
    have h := h.2
    refine clVI (As := [.int x2, .int (gM_path S (x1).toNatClampNeg)]) (rest := []) (ci := 6) (k := 0) C0 (m_X7_isThrough l D ad cI cJ cZ S x2 (gM_path S (x1).toNatClampNeg) _ h) cal_X7_isThrough kw_316 kw_315 kw_314 rfl rfl rfl rfl hl.1 rfl (Nat.le_of_ble_eq_true rfl) ⟨Nat.le_of_ble_eq_true rfl, Nat.le_of_ble_eq_true rfl⟩ rfl rfl dX7_goesThrough_18 hw (fun r18 S18 H locs h hw => ?_)
    replace h := h
    refine lv_if_eq (tgt := 28) hx hb dX7_goesThrough_21 (by decide) (fun c21 => ?_) (fun c21 => ?_)
    · have h := h.1 c21
      refine lv_iconst (v := 0) hx hb dX7_goesThrough_28 (by decide) ?_
      exact rtZ C0 hw rfl h dX7_goesThrough_29
    · have h := h.2 c21
      refine lv_iconst (v := 1) hx hb dX7_goesThrough_24 (by decide) ?_
      refine lv_goto (tgt := 29) hx hb dX7_goesThrough_25 (by decide) ?_
      exact rtZ C0 hw rfl h dX7_goesThrough_29
abbrev rm_X7_walkLoan : Room := { frames := 2, cells := 0, slots := 0, locals := 49 }
set_option maxHeartbeats 4000000 in
set_option maxRecDepth 100000 in
theorem mb_X7_walkLoan_256 {p : Program} {l : Launch} {e : Env} {s : State} {m : MethodId} {args : Array Value} {below : List Frame} {meth : Method} {c : Code} {D : va_G} {ad : Nat → Nat} {cI cJ cZ : ClassId} {A : Nat → Prop} {post : MS → Prop} (C0 : Cx p s m args meth c cX7_walkLoan 8 RX7 none D cI cJ cZ A) (K76 : Int32 → MS → Prop) (hK76 : ∀ (x1 : Int32) (S : MS) (H : Heap) (locs : List Loc) (ls : Array Slot), K76 x1 S → Wd (WM ad cI cJ cZ) D A s.heap H locs S → lv_has ls 8 [(0, .ref (ad 0)), (1, .int x1)] → W p l e rm_X7_walkLoan s m args below meth c H locs 0 0 (QV (WM ad cI cJ cZ) D A s args below post) (F0 m 76 ls [])) :
 ∀ (x1 : Int32) (S : MS) (H : Heap) (locs : List Loc) (ls : Array Slot), wp_X7_walkLoan_256 K76 post x1 S → Wd (WM ad cI cJ cZ) D A s.heap H locs S → lv_has ls 8 [(0, .ref (ad 0)), (1, .int x1)] → W p l e rm_X7_walkLoan s m args below meth c H locs 0 0 (QV (WM ad cI cJ cZ) D A s args below post) (F0 m 256 ls []) := by
  have hx := C0.1
  have hb := C0.2.1
  intro x1 S H locs ls h hw hl
  unfold wp_X7_walkLoan_256 at h
  refine lv_goto (tgt := 76) hx hb dX7_walkLoan_256 (by decide) ?_
  replace hl := lv_sub hl [0, 1] rfl
  exact hK76 x1 S _ _ _ h hw hl
set_option maxHeartbeats 4000000 in
set_option maxRecDepth 100000 in
theorem mb_X7_walkLoan_237 {p : Program} {l : Launch} {e : Env} {s : State} {m : MethodId} {args : Array Value} {below : List Frame} {meth : Method} {c : Code} {D : va_G} {ad : Nat → Nat} {cI cJ cZ : ClassId} {A : Nat → Prop} {post : MS → Prop} (C0 : Cx p s m args meth c cX7_walkLoan 8 RX7 none D cI cJ cZ A) (K76 : Int32 → MS → Prop) (hK76 : ∀ (x1 : Int32) (S : MS) (H : Heap) (locs : List Loc) (ls : Array Slot), K76 x1 S → Wd (WM ad cI cJ cZ) D A s.heap H locs S → lv_has ls 8 [(0, .ref (ad 0)), (1, .int x1)] → W p l e rm_X7_walkLoan s m args below meth c H locs 0 0 (QV (WM ad cI cJ cZ) D A s args below post) (F0 m 76 ls [])) :
 ∀ (x1 : Int32) (x3 : Int32) (k0 : Int32) (S : MS) (H : Heap) (locs : List Loc) (ls : Array Slot), wp_X7_walkLoan_237 K76 post x1 x3 k0 S → Wd (WM ad cI cJ cZ) D A s.heap H locs S → lv_has ls 8 [(0, .ref (ad 0)), (1, .int x1), (3, .int x3)] → W p l e rm_X7_walkLoan s m args below meth c H locs 0 0 (QV (WM ad cI cJ cZ) D A s args below post) (F0 m 237 ls [.int k0]) := by
  have hx := C0.1
  have hb := C0.2.1
  intro x1 x3 k0 S H locs ls h hw hl
  unfold wp_X7_walkLoan_237 at h
  refine lv_istore (lv' := [(7, .int k0), (0, .ref (ad 0)), (1, .int x1), (3, .int x3)]) hx hb dX7_walkLoan_237 hl (by decide) rfl (fun ls hl => ?_)
  refine lv_iload hx hb dX7_walkLoan_239 (lv_at hl 0 rfl) ?_
  refine lv_if_eq (tgt := 256) hx hb dX7_walkLoan_241 (by decide) (fun c241 => ?_) (fun c241 => ?_)
  · have h := h.1 c241
    replace hl := lv_sub hl [1, 2] rfl
    exact mb_X7_walkLoan_256 C0 _ hK76 x1 S _ _ ls h hw hl
  · have h := h.2 c241
    refine lv_aload_n hx hb dX7_walkLoan_244 rfl (lv_at hl 1 rfl) ?_
    refine lv_iload_n hx hb dX7_walkLoan_245 rfl (lv_at hl 2 rfl) ?_
    refine lv_iload_n hx hb dX7_walkLoan_246 rfl (lv_at hl 3 rfl) ?_
    refine lv_aload_n hx hb dX7_walkLoan_247 rfl (lv_at hl 1 rfl) ?_
    refine gf_X7_to C0 hw dX7_walkLoan_248 ?_
    refine lv_iload_n hx hb dX7_walkLoan_251 rfl (lv_at hl 3 rfl) ?_
    refine ld_M_to C0 hw h.1 dX7_walkLoan_252 ?_
    have h := h.2
    refine clVV (As := [.int x1, .int x3, .int (gM_to S (x3).toNatClampNeg)]) (rest := []) (ci := 6) (k := 0) C0 (m_X7_spread l D ad cI cJ cZ S x1 x3 (gM_to S (x3).toNatClampNeg) _ h) cal_X7_spread kw_372 kw_371 kw_370 rfl rfl rfl rfl hl.1 rfl (Nat.le_of_ble_eq_true rfl) ⟨Nat.le_of_ble_eq_true rfl, Nat.le_of_ble_eq_true rfl⟩ rfl rfl dX7_walkLoan_253 hw (fun S253 H locs h hw => ?_)
    replace h := h
    replace hl := lv_sub hl [1, 2] rfl
    exact mb_X7_walkLoan_256 C0 _ hK76 x1 S253 _ _ ls h hw hl
set_option maxHeartbeats 4000000 in
set_option maxRecDepth 100000 in
theorem mb_X7_walkLoan_232 {p : Program} {l : Launch} {e : Env} {s : State} {m : MethodId} {args : Array Value} {below : List Frame} {meth : Method} {c : Code} {D : va_G} {ad : Nat → Nat} {cI cJ cZ : ClassId} {A : Nat → Prop} {post : MS → Prop} (C0 : Cx p s m args meth c cX7_walkLoan 8 RX7 none D cI cJ cZ A) (K237 : Int32 → Int32 → Int32 → MS → Prop) (hK237 : ∀ (x1 : Int32) (x3 : Int32) (k0 : Int32) (S : MS) (H : Heap) (locs : List Loc) (ls : Array Slot), K237 x1 x3 k0 S → Wd (WM ad cI cJ cZ) D A s.heap H locs S → lv_has ls 8 [(0, .ref (ad 0)), (1, .int x1), (3, .int x3)] → W p l e rm_X7_walkLoan s m args below meth c H locs 0 0 (QV (WM ad cI cJ cZ) D A s args below post) (F0 m 237 ls [.int k0])) :
 ∀ (x1 : Int32) (x3 : Int32) (S : MS) (H : Heap) (locs : List Loc) (ls : Array Slot), wp_X7_walkLoan_232 K237 post x1 x3 S → Wd (WM ad cI cJ cZ) D A s.heap H locs S → lv_has ls 8 [(0, .ref (ad 0)), (1, .int x1), (3, .int x3)] → W p l e rm_X7_walkLoan s m args below meth c H locs 0 0 (QV (WM ad cI cJ cZ) D A s args below post) (F0 m 232 ls []) := by
  have hx := C0.1
  have hb := C0.2.1
  intro x1 x3 S H locs ls h hw hl
  unfold wp_X7_walkLoan_232 at h
  refine lv_iconst (v := 1) hx hb dX7_walkLoan_232 (by decide) ?_
  refine lv_goto (tgt := 237) hx hb dX7_walkLoan_233 (by decide) ?_
  replace hl := lv_sub hl [0, 1, 2] rfl
  exact hK237 x1 x3 (1 : Int32) S _ _ _ h hw hl
set_option maxHeartbeats 4000000 in
set_option maxRecDepth 100000 in
theorem mb_X7_walkLoan_236 {p : Program} {l : Launch} {e : Env} {s : State} {m : MethodId} {args : Array Value} {below : List Frame} {meth : Method} {c : Code} {D : va_G} {ad : Nat → Nat} {cI cJ cZ : ClassId} {A : Nat → Prop} {post : MS → Prop} (C0 : Cx p s m args meth c cX7_walkLoan 8 RX7 none D cI cJ cZ A) (K237 : Int32 → Int32 → Int32 → MS → Prop) (hK237 : ∀ (x1 : Int32) (x3 : Int32) (k0 : Int32) (S : MS) (H : Heap) (locs : List Loc) (ls : Array Slot), K237 x1 x3 k0 S → Wd (WM ad cI cJ cZ) D A s.heap H locs S → lv_has ls 8 [(0, .ref (ad 0)), (1, .int x1), (3, .int x3)] → W p l e rm_X7_walkLoan s m args below meth c H locs 0 0 (QV (WM ad cI cJ cZ) D A s args below post) (F0 m 237 ls [.int k0])) :
 ∀ (x1 : Int32) (x3 : Int32) (S : MS) (H : Heap) (locs : List Loc) (ls : Array Slot), wp_X7_walkLoan_236 K237 post x1 x3 S → Wd (WM ad cI cJ cZ) D A s.heap H locs S → lv_has ls 8 [(0, .ref (ad 0)), (1, .int x1), (3, .int x3)] → W p l e rm_X7_walkLoan s m args below meth c H locs 0 0 (QV (WM ad cI cJ cZ) D A s args below post) (F0 m 236 ls []) := by
  have hx := C0.1
  have hb := C0.2.1
  intro x1 x3 S H locs ls h hw hl
  unfold wp_X7_walkLoan_236 at h
  refine lv_iconst (v := 0) hx hb dX7_walkLoan_236 (by decide) ?_
  replace hl := lv_sub hl [0, 1, 2] rfl
  exact hK237 x1 x3 (0 : Int32) S _ _ _ h hw hl
set_option maxHeartbeats 4000000 in
set_option maxRecDepth 100000 in
theorem mb_X7_walkLoan_195 {p : Program} {l : Launch} {e : Env} {s : State} {m : MethodId} {args : Array Value} {below : List Frame} {meth : Method} {c : Code} {D : va_G} {ad : Nat → Nat} {cI cJ cZ : ClassId} {A : Nat → Prop} {post : MS → Prop} (C0 : Cx p s m args meth c cX7_walkLoan 8 RX7 none D cI cJ cZ A) (K232 : Int32 → Int32 → MS → Prop) (hK232 : ∀ (x1 : Int32) (x3 : Int32) (S : MS) (H : Heap) (locs : List Loc) (ls : Array Slot), K232 x1 x3 S → Wd (WM ad cI cJ cZ) D A s.heap H locs S → lv_has ls 8 [(0, .ref (ad 0)), (1, .int x1), (3, .int x3)] → W p l e rm_X7_walkLoan s m args below meth c H locs 0 0 (QV (WM ad cI cJ cZ) D A s args below post) (F0 m 232 ls [])) (K237 : Int32 → Int32 → Int32 → MS → Prop) (hK237 : ∀ (x1 : Int32) (x3 : Int32) (k0 : Int32) (S : MS) (H : Heap) (locs : List Loc) (ls : Array Slot), K237 x1 x3 k0 S → Wd (WM ad cI cJ cZ) D A s.heap H locs S → lv_has ls 8 [(0, .ref (ad 0)), (1, .int x1), (3, .int x3)] → W p l e rm_X7_walkLoan s m args below meth c H locs 0 0 (QV (WM ad cI cJ cZ) D A s args below post) (F0 m 237 ls [.int k0])) :
 ∀ (x1 : Int32) (x3 : Int32) (x4 : Int32) (S : MS) (H : Heap) (locs : List Loc) (ls : Array Slot), wp_X7_walkLoan_195 K232 K237 post x1 x3 x4 S → Wd (WM ad cI cJ cZ) D A s.heap H locs S → lv_has ls 8 [(0, .ref (ad 0)), (1, .int x1), (3, .int x3), (4, .int x4)] → W p l e rm_X7_walkLoan s m args below meth c H locs 0 0 (QV (WM ad cI cJ cZ) D A s args below post) (F0 m 195 ls []) := by
  have hx := C0.1
  have hb := C0.2.1
  intro x1 x3 x4 S H locs ls h hw hl
  unfold wp_X7_walkLoan_195 at h
  refine lv_aload_n hx hb dX7_walkLoan_195 rfl (lv_at hl 0 rfl) ?_
  refine gf_X7_acts C0 hw dX7_walkLoan_196 ?_
  refine lv_iload_n hx hb dX7_walkLoan_199 rfl (lv_at hl 2 rfl) ?_
  refine ld_M_acts C0 hw h.1 dX7_walkLoan_200 ?_
  have h := h.2
  refine lv_bipush (v := 7) hx hb dX7_walkLoan_201 (by decide) ?_
  refine lv_icmp_ne (tgt := 236) hx hb dX7_walkLoan_203 (by decide) (fun c203 => ?_) (fun c203 => ?_)
  · have h := h.1 c203
    replace hl := lv_sub hl [0, 1, 2] rfl
    exact mb_X7_walkLoan_236 C0 _ hK237 x1 x3 S _ _ ls h hw hl
  · have h := h.2 c203
    refine lv_aload_n hx hb dX7_walkLoan_206 rfl (lv_at hl 0 rfl) ?_
    refine gf_X7_of C0 hw dX7_walkLoan_207 ?_
    refine lv_iload_n hx hb dX7_walkLoan_210 rfl (lv_at hl 2 rfl) ?_
    refine ld_M_of C0 hw h.1 dX7_walkLoan_211 ?_
    have h := h.2
    refine lv_iload hx hb dX7_walkLoan_212 (lv_at hl 3 rfl) ?_
    refine lv_icmp_ne (tgt := 236) hx hb dX7_walkLoan_214 (by decide) (fun c214 => ?_) (fun c214 => ?_)
    · have h := h.1 c214
      replace hl := lv_sub hl [0, 1, 2] rfl
      exact mb_X7_walkLoan_236 C0 _ hK237 x1 x3 S _ _ ls h hw hl
    · have h := h.2 c214
      refine lv_aload_n hx hb dX7_walkLoan_217 rfl (lv_at hl 0 rfl) ?_
      refine lv_iload hx hb dX7_walkLoan_218 (lv_at hl 3 rfl) ?_
      refine lv_aload_n hx hb dX7_walkLoan_220 rfl (lv_at hl 0 rfl) ?_
      refine gf_X7_path C0 hw dX7_walkLoan_221 ?_
      refine lv_iload_n hx hb dX7_walkLoan_224 rfl (lv_at hl 2 rfl) ?_
      refine ld_M_path C0 hw h.1 dX7_walkLoan_225 ?_
      have h := h.2
      refine clVI (As := [.int x4, .int (gM_path S (x3).toNatClampNeg)]) (rest := []) (ci := 6) (k := 0) C0 (m_X7_isThrough l D ad cI cJ cZ S x4 (gM_path S (x3).toNatClampNeg) _ h) cal_X7_isThrough kw_316 kw_315 kw_314 rfl rfl rfl rfl hl.1 rfl (Nat.le_of_ble_eq_true rfl) ⟨Nat.le_of_ble_eq_true rfl, Nat.le_of_ble_eq_true rfl⟩ rfl rfl dX7_walkLoan_226 hw (fun r226 S226 H locs h hw => ?_)
      replace h := h
      refine lv_if_eq (tgt := 236) hx hb dX7_walkLoan_229 (by decide) (fun c229 => ?_) (fun c229 => ?_)
      · have h := h.1 c229
        replace hl := lv_sub hl [0, 1, 2] rfl
        exact mb_X7_walkLoan_236 C0 _ hK237 x1 x3 S226 _ _ ls h hw hl
      · have h := h.2 c229
        replace hl := lv_sub hl [0, 1, 2] rfl
        exact hK232 x1 x3 S226 _ _ _ h hw hl
set_option maxHeartbeats 4000000 in
set_option maxRecDepth 100000 in
theorem mb_X7_walkLoan_173 {p : Program} {l : Launch} {e : Env} {s : State} {m : MethodId} {args : Array Value} {below : List Frame} {meth : Method} {c : Code} {D : va_G} {ad : Nat → Nat} {cI cJ cZ : ClassId} {A : Nat → Prop} {post : MS → Prop} (C0 : Cx p s m args meth c cX7_walkLoan 8 RX7 none D cI cJ cZ A) (K76 : Int32 → MS → Prop) (hK76 : ∀ (x1 : Int32) (S : MS) (H : Heap) (locs : List Loc) (ls : Array Slot), K76 x1 S → Wd (WM ad cI cJ cZ) D A s.heap H locs S → lv_has ls 8 [(0, .ref (ad 0)), (1, .int x1)] → W p l e rm_X7_walkLoan s m args below meth c H locs 0 0 (QV (WM ad cI cJ cZ) D A s args below post) (F0 m 76 ls [])) :
 ∀ (x1 : Int32) (x3 : Int32) (x4 : Int32) (S : MS) (H : Heap) (locs : List Loc) (ls : Array Slot), wp_X7_walkLoan_173 K76 post x1 x3 x4 S → Wd (WM ad cI cJ cZ) D A s.heap H locs S → lv_has ls 8 [(0, .ref (ad 0)), (1, .int x1), (3, .int x3), (4, .int x4)] → W p l e rm_X7_walkLoan s m args below meth c H locs 0 0 (QV (WM ad cI cJ cZ) D A s args below post) (F0 m 173 ls []) := by
  have hx := C0.1
  have hb := C0.2.1
  intro x1 x3 x4 S H locs ls h hw hl
  unfold wp_X7_walkLoan_173 at h
  refine lv_aload_n hx hb dX7_walkLoan_173 rfl (lv_at hl 0 rfl) ?_
  refine gf_X7_acts C0 hw dX7_walkLoan_174 ?_
  refine lv_iload_n hx hb dX7_walkLoan_177 rfl (lv_at hl 2 rfl) ?_
  refine ld_M_acts C0 hw h.1 dX7_walkLoan_178 ?_
  have h := h.2
  refine lv_bipush (v := 8) hx hb dX7_walkLoan_179 (by decide) ?_
  refine lv_icmp_ne (tgt := 195) hx hb dX7_walkLoan_181 (by decide) (fun c181 => ?_) (fun c181 => ?_)
  · have h := h.1 c181
    replace hl := lv_sub hl [0, 1, 2, 3] rfl
    exact mb_X7_walkLoan_195 C0 _ (fun x1 x3 S H locs ls h hw hl => mb_X7_walkLoan_232 C0 _ (fun x1 x3 k0 S H locs ls h hw hl => mb_X7_walkLoan_237 C0 _ hK76 x1 x3 k0 S _ _ ls h hw hl) x1 x3 S _ _ ls h hw hl) _ (fun x1 x3 k0 S H locs ls h hw hl => mb_X7_walkLoan_237 C0 _ hK76 x1 x3 k0 S _ _ ls h hw hl) x1 x3 x4 S _ _ ls h hw hl
  · have h := h.2 c181
    refine lv_aload_n hx hb dX7_walkLoan_184 rfl (lv_at hl 0 rfl) ?_
    refine gf_X7_of C0 hw dX7_walkLoan_185 ?_
    refine lv_iload_n hx hb dX7_walkLoan_188 rfl (lv_at hl 2 rfl) ?_
    refine ld_M_of C0 hw h.1 dX7_walkLoan_189 ?_
    have h := h.2
    refine lv_iload hx hb dX7_walkLoan_190 (lv_at hl 3 rfl) ?_
    refine lv_icmp_eq (tgt := 232) hx hb dX7_walkLoan_192 (by decide) (fun c192 => ?_) (fun c192 => ?_)
    · have h := h.1 c192
      replace hl := lv_sub hl [0, 1, 2] rfl
      exact mb_X7_walkLoan_232 C0 _ (fun x1 x3 k0 S H locs ls h hw hl => mb_X7_walkLoan_237 C0 _ hK76 x1 x3 k0 S _ _ ls h hw hl) x1 x3 S _ _ ls h hw hl
    · have h := h.2 c192
      replace hl := lv_sub hl [0, 1, 2, 3] rfl
      exact mb_X7_walkLoan_195 C0 _ (fun x1 x3 S H locs ls h hw hl => mb_X7_walkLoan_232 C0 _ (fun x1 x3 k0 S H locs ls h hw hl => mb_X7_walkLoan_237 C0 _ hK76 x1 x3 k0 S _ _ ls h hw hl) x1 x3 S _ _ ls h hw hl) _ (fun x1 x3 k0 S H locs ls h hw hl => mb_X7_walkLoan_237 C0 _ hK76 x1 x3 k0 S _ _ ls h hw hl) x1 x3 x4 S _ _ ls h hw hl
set_option maxHeartbeats 4000000 in
set_option maxRecDepth 100000 in
theorem mb_X7_walkLoan_148 {p : Program} {l : Launch} {e : Env} {s : State} {m : MethodId} {args : Array Value} {below : List Frame} {meth : Method} {c : Code} {D : va_G} {ad : Nat → Nat} {cI cJ cZ : ClassId} {A : Nat → Prop} {post : MS → Prop} (C0 : Cx p s m args meth c cX7_walkLoan 8 RX7 none D cI cJ cZ A) (K76 : Int32 → MS → Prop) (hK76 : ∀ (x1 : Int32) (S : MS) (H : Heap) (locs : List Loc) (ls : Array Slot), K76 x1 S → Wd (WM ad cI cJ cZ) D A s.heap H locs S → lv_has ls 8 [(0, .ref (ad 0)), (1, .int x1)] → W p l e rm_X7_walkLoan s m args below meth c H locs 0 0 (QV (WM ad cI cJ cZ) D A s args below post) (F0 m 76 ls [])) :
 ∀ (x1 : Int32) (x3 : Int32) (x4 : Int32) (x5 : Int32) (k0 : Int32) (S : MS) (H : Heap) (locs : List Loc) (ls : Array Slot), wp_X7_walkLoan_148 K76 post x1 x3 x4 x5 k0 S → Wd (WM ad cI cJ cZ) D A s.heap H locs S → lv_has ls 8 [(0, .ref (ad 0)), (1, .int x1), (3, .int x3), (4, .int x4), (5, .int x5)] → W p l e rm_X7_walkLoan s m args below meth c H locs 0 0 (QV (WM ad cI cJ cZ) D A s args below post) (F0 m 148 ls [.int k0]) := by
  have hx := C0.1
  have hb := C0.2.1
  intro x1 x3 x4 x5 k0 S H locs ls h hw hl
  unfold wp_X7_walkLoan_148 at h
  refine lv_istore (lv' := [(6, .int k0), (0, .ref (ad 0)), (1, .int x1), (3, .int x3), (4, .int x4), (5, .int x5)]) hx hb dX7_walkLoan_148 hl (by decide) rfl (fun ls hl => ?_)
  refine lv_iload hx hb dX7_walkLoan_150 (lv_at hl 0 rfl) ?_
  refine lv_if_eq (tgt := 158) hx hb dX7_walkLoan_152 (by decide) (fun c152 => ?_) (fun c152 => ?_)
  · have h := h.1 c152
    refine lv_iload hx hb dX7_walkLoan_158 (lv_at hl 5 rfl) ?_
    refine lv_iload hx hb dX7_walkLoan_160 (lv_at hl 4 rfl) ?_
    refine lv_icmp_eq (tgt := 173) hx hb dX7_walkLoan_162 (by decide) (fun c162 => ?_) (fun c162 => ?_)
    · have h := h.1 c162
      replace hl := lv_sub hl [1, 2, 3, 4] rfl
      exact mb_X7_walkLoan_173 C0 _ hK76 x1 x3 x4 S _ _ ls h hw hl
    · have h := h.2 c162
      refine lv_aload_n hx hb dX7_walkLoan_165 rfl (lv_at hl 1 rfl) ?_
      refine lv_iload_n hx hb dX7_walkLoan_166 rfl (lv_at hl 2 rfl) ?_
      refine lv_iload_n hx hb dX7_walkLoan_167 rfl (lv_at hl 3 rfl) ?_
      refine lv_iload hx hb dX7_walkLoan_168 (lv_at hl 4 rfl) ?_
      refine clVV (As := [.int x1, .int x3, .int x4]) (rest := []) (ci := 6) (k := 0) C0 (m_X7_spread l D ad cI cJ cZ S x1 x3 x4 _ h) cal_X7_spread kw_372 kw_371 kw_370 rfl rfl rfl rfl hl.1 rfl (Nat.le_of_ble_eq_true rfl) ⟨Nat.le_of_ble_eq_true rfl, Nat.le_of_ble_eq_true rfl⟩ rfl rfl dX7_walkLoan_170 hw (fun S170 H locs h hw => ?_)
      replace h := h
      replace hl := lv_sub hl [1, 2, 3, 4] rfl
      exact mb_X7_walkLoan_173 C0 _ hK76 x1 x3 x4 S170 _ _ ls h hw hl
  · have h := h.2 c152
    refine lv_goto (tgt := 76) hx hb dX7_walkLoan_155 (by decide) ?_
    replace hl := lv_sub hl [1, 2] rfl
    exact hK76 x1 S _ _ _ h hw hl
set_option maxHeartbeats 4000000 in
set_option maxRecDepth 100000 in
theorem mb_X7_walkLoan_147 {p : Program} {l : Launch} {e : Env} {s : State} {m : MethodId} {args : Array Value} {below : List Frame} {meth : Method} {c : Code} {D : va_G} {ad : Nat → Nat} {cI cJ cZ : ClassId} {A : Nat → Prop} {post : MS → Prop} (C0 : Cx p s m args meth c cX7_walkLoan 8 RX7 none D cI cJ cZ A) (K148 : Int32 → Int32 → Int32 → Int32 → Int32 → MS → Prop) (hK148 : ∀ (x1 : Int32) (x3 : Int32) (x4 : Int32) (x5 : Int32) (k0 : Int32) (S : MS) (H : Heap) (locs : List Loc) (ls : Array Slot), K148 x1 x3 x4 x5 k0 S → Wd (WM ad cI cJ cZ) D A s.heap H locs S → lv_has ls 8 [(0, .ref (ad 0)), (1, .int x1), (3, .int x3), (4, .int x4), (5, .int x5)] → W p l e rm_X7_walkLoan s m args below meth c H locs 0 0 (QV (WM ad cI cJ cZ) D A s args below post) (F0 m 148 ls [.int k0])) :
 ∀ (x1 : Int32) (x3 : Int32) (x4 : Int32) (x5 : Int32) (S : MS) (H : Heap) (locs : List Loc) (ls : Array Slot), wp_X7_walkLoan_147 K148 post x1 x3 x4 x5 S → Wd (WM ad cI cJ cZ) D A s.heap H locs S → lv_has ls 8 [(0, .ref (ad 0)), (1, .int x1), (3, .int x3), (4, .int x4), (5, .int x5)] → W p l e rm_X7_walkLoan s m args below meth c H locs 0 0 (QV (WM ad cI cJ cZ) D A s args below post) (F0 m 147 ls []) := by
  have hx := C0.1
  have hb := C0.2.1
  intro x1 x3 x4 x5 S H locs ls h hw hl
  unfold wp_X7_walkLoan_147 at h
  refine lv_iconst (v := 0) hx hb dX7_walkLoan_147 (by decide) ?_
  replace hl := lv_sub hl [0, 1, 2, 3, 4] rfl
  exact hK148 x1 x3 x4 x5 (0 : Int32) S _ _ _ h hw hl
set_option maxHeartbeats 4000000 in
set_option maxRecDepth 100000 in
theorem mb_X7_walkLoan_76 {p : Program} {l : Launch} {e : Env} {s : State} {m : MethodId} {args : Array Value} {below : List Frame} {meth : Method} {c : Code} {D : va_G} {ad : Nat → Nat} {cI cJ cZ : ClassId} {A : Nat → Prop} {post : MS → Prop} (C0 : Cx p s m args meth c cX7_walkLoan 8 RX7 none D cI cJ cZ A) :
 ∀ (n : Nat) (x1 : Int32) (S : MS) (H : Heap) (locs : List Loc) (ls : Array Slot), wp_X7_walkLoan_76 post n x1 S → Wd (WM ad cI cJ cZ) D A s.heap H locs S → lv_has ls 8 [(0, .ref (ad 0)), (1, .int x1)] → W p l e rm_X7_walkLoan s m args below meth c H locs 0 0 (QV (WM ad cI cJ cZ) D A s args below post) (F0 m 76 ls []) := by
  have hx := C0.1
  have hb := C0.2.1
  intro n
  induction n with
  | zero => intro x1 S H locs ls h; exact h.elim
  | succ n ih =>
    intro x1 S H locs ls h hw hl
    replace h : ws_X7_walkLoan_76 (wp_X7_walkLoan_76  post n)  post x1 S := h
    unfold ws_X7_walkLoan_76 at h
    refine lv_aload_n hx hb dX7_walkLoan_76 rfl (lv_at hl 0 rfl) ?_
    refine gf_X7_piled C0 hw dX7_walkLoan_77 ?_
    refine lv_if_le (tgt := 259) hx hb dX7_walkLoan_80 (by decide) (fun c80 => ?_) (fun c80 => ?_)
    · have h := h.1 c80
      exact rtV C0 hw h dX7_walkLoan_259
    · have h := h.2 c80
      refine lv_aload_n hx hb dX7_walkLoan_83 rfl (lv_at hl 0 rfl) ?_
      refine lv_dup hx hb dX7_walkLoan_84 rfl ?_
      refine gf_X7_piled C0 hw dX7_walkLoan_85 ?_
      refine lv_iconst (v := 1) hx hb dX7_walkLoan_88 (by decide) ?_
      refine lv_isub hx hb dX7_walkLoan_89 ?_
      refine pf_X7_piled C0 hw dX7_walkLoan_90 (fun H locs hw => ?_)
      obtain ⟨S_1, eS_1⟩ : ∃ z, z = sM_piled S ((gM_piled S) - (1 : Int32)) := ⟨_, rfl⟩
      rw [← eS_1] at hw
      have h := h S_1 eS_1
      refine lv_aload_n hx hb dX7_walkLoan_93 rfl (lv_at hl 0 rfl) ?_
      refine gf_X7_pile C0 hw dX7_walkLoan_94 ?_
      refine lv_aload_n hx hb dX7_walkLoan_97 rfl (lv_at hl 0 rfl) ?_
      refine gf_X7_piled C0 hw dX7_walkLoan_98 ?_
      refine ld_M_pile C0 hw h.1 dX7_walkLoan_101 ?_
      have h := h.2
      refine lv_bipush (v := 16) hx hb dX7_walkLoan_102 (by decide) ?_
      refine lv_idiv hx hb dX7_walkLoan_104 (by decide) ?_
      refine lv_topi (fun x3_2 ex3_2 => ?_)
      have h := h x3_2 ex3_2
      refine lv_istore_n (lv' := [(3, .int x3_2), (0, .ref (ad 0)), (1, .int x1)]) hx hb dX7_walkLoan_105 rfl hl (by decide) rfl (fun ls hl => ?_)
      refine lv_aload_n hx hb dX7_walkLoan_106 rfl (lv_at hl 1 rfl) ?_
      refine gf_X7_pile C0 hw dX7_walkLoan_107 ?_
      refine lv_aload_n hx hb dX7_walkLoan_110 rfl (lv_at hl 1 rfl) ?_
      refine gf_X7_piled C0 hw dX7_walkLoan_111 ?_
      refine ld_M_pile C0 hw h.1 dX7_walkLoan_114 ?_
      have h := h.2
      refine lv_bipush (v := 16) hx hb dX7_walkLoan_115 (by decide) ?_
      refine lv_irem hx hb dX7_walkLoan_117 (by decide) ?_
      refine lv_topi (fun x4_3 ex4_3 => ?_)
      have h := h x4_3 ex4_3
      refine lv_istore (lv' := [(4, .int x4_3), (3, .int x3_2), (0, .ref (ad 0)), (1, .int x1)]) hx hb dX7_walkLoan_118 hl (by decide) rfl (fun ls hl => ?_)
      refine lv_aload_n hx hb dX7_walkLoan_120 rfl (lv_at hl 2 rfl) ?_
      refine lv_iload_n hx hb dX7_walkLoan_121 rfl (lv_at hl 1 rfl) ?_
      refine clVI (As := [.int x3_2]) (rest := []) (ci := 6) (k := 0) C0 (m_X7_renewed l D ad cI cJ cZ S_1 x3_2 _ h) cal_X7_renewed kw_375 kw_374 kw_373 rfl rfl rfl rfl hl.1 rfl (Nat.le_of_ble_eq_true rfl) ⟨Nat.le_of_ble_eq_true rfl, Nat.le_of_ble_eq_true rfl⟩ rfl rfl dX7_walkLoan_122 hw (fun r122 S122 H locs h hw => ?_)
      replace h := h
      refine lv_istore (lv' := [(5, .int r122), (4, .int x4_3), (3, .int x3_2), (0, .ref (ad 0)), (1, .int x1)]) hx hb dX7_walkLoan_125 hl (by decide) rfl (fun ls hl => ?_)
      refine lv_iload hx hb dX7_walkLoan_127 (lv_at hl 0 rfl) ?_
      refine lv_iconst (v := -1) hx hb dX7_walkLoan_129 (by decide) ?_
      refine lv_icmp_eq (tgt := 147) hx hb dX7_walkLoan_130 (by decide) (fun c130 => ?_) (fun c130 => ?_)
      · have h := h.1 c130
        replace hl := lv_sub hl [3, 4, 2, 1, 0] rfl
        exact mb_X7_walkLoan_147 C0 _ (fun x1 x3 x4 x5 k0 S H locs ls h hw hl => mb_X7_walkLoan_148 C0 _ ih x1 x3 x4 x5 k0 S _ _ ls h hw hl) x1 x3_2 x4_3 r122 S122 _ _ ls h hw hl
      · have h := h.2 c130
        refine lv_aload_n hx hb dX7_walkLoan_133 rfl (lv_at hl 3 rfl) ?_
        refine lv_iload_n hx hb dX7_walkLoan_134 rfl (lv_at hl 4 rfl) ?_
        refine lv_iload hx hb dX7_walkLoan_135 (lv_at hl 0 rfl) ?_
        refine clVI (As := [.int x1, .int r122]) (rest := []) (ci := 6) (k := 0) C0 (m_X7_goesThrough l D ad cI cJ cZ S122 x1 r122 _ h) cal_X7_goesThrough kw_378 kw_377 kw_376 rfl rfl rfl rfl hl.1 rfl (Nat.le_of_ble_eq_true rfl) ⟨Nat.le_of_ble_eq_true rfl, Nat.le_of_ble_eq_true rfl⟩ rfl rfl dX7_walkLoan_137 hw (fun r137 S137 H locs h hw => ?_)
        replace h := h
        refine lv_if_eq (tgt := 147) hx hb dX7_walkLoan_140 (by decide) (fun c140 => ?_) (fun c140 => ?_)
        · have h := h.1 c140
          replace hl := lv_sub hl [3, 4, 2, 1, 0] rfl
          exact mb_X7_walkLoan_147 C0 _ (fun x1 x3 x4 x5 k0 S H locs ls h hw hl => mb_X7_walkLoan_148 C0 _ ih x1 x3 x4 x5 k0 S _ _ ls h hw hl) x1 x3_2 x4_3 r122 S137 _ _ ls h hw hl
        · have h := h.2 c140
          refine lv_iconst (v := 1) hx hb dX7_walkLoan_143 (by decide) ?_
          refine lv_goto (tgt := 148) hx hb dX7_walkLoan_144 (by decide) ?_
          replace hl := lv_sub hl [3, 4, 2, 1, 0] rfl
          exact mb_X7_walkLoan_148 C0 _ ih x1 x3_2 x4_3 r122 (1 : Int32) S137 _ _ ls h hw hl
set_option maxHeartbeats 4000000 in
set_option maxRecDepth 100000 in
theorem mb_X7_walkLoan_14 {p : Program} {l : Launch} {e : Env} {s : State} {m : MethodId} {args : Array Value} {below : List Frame} {meth : Method} {c : Code} {D : va_G} {ad : Nat → Nat} {cI cJ cZ : ClassId} {A : Nat → Prop} {post : MS → Prop} (C0 : Cx p s m args meth c cX7_walkLoan 8 RX7 none D cI cJ cZ A) :
 ∀ (n : Nat) (x1 : Int32) (x2 : Int32) (x3 : Int32) (S : MS) (H : Heap) (locs : List Loc) (ls : Array Slot), wp_X7_walkLoan_14 post n x1 x2 x3 S → Wd (WM ad cI cJ cZ) D A s.heap H locs S → lv_has ls 8 [(0, .ref (ad 0)), (1, .int x1), (2, .int x2), (3, .int x3)] → W p l e rm_X7_walkLoan s m args below meth c H locs 0 0 (QV (WM ad cI cJ cZ) D A s args below post) (F0 m 14 ls []) := by
  have hx := C0.1
  have hb := C0.2.1
  intro n
  induction n with
  | zero => intro x1 x2 x3 S H locs ls h; exact h.elim
  | succ n ih =>
    intro x1 x2 x3 S H locs ls h hw hl
    replace h : ws_X7_walkLoan_14 (wp_X7_walkLoan_14  post n)  post x1 x2 x3 S := h
    unfold ws_X7_walkLoan_14 at h
    refine lv_iload_n hx hb dX7_walkLoan_14 rfl (lv_at hl 3 rfl) ?_
    refine lv_sipush (v := 2400) hx hb dX7_walkLoan_15 (by decide) ?_
    refine lv_icmp_ge (tgt := 40) hx hb dX7_walkLoan_18 (by decide) (fun c18 => ?_) (fun c18 => ?_)
    · have h := h.1 c18
      refine lv_aload_n hx hb dX7_walkLoan_40 rfl (lv_at hl 0 rfl) ?_
      refine gf_X7_come C0 hw dX7_walkLoan_41 ?_
      refine lv_iload_n hx hb dX7_walkLoan_44 rfl (lv_at hl 1 rfl) ?_
      refine ld_M_come C0 hw h.1 dX7_walkLoan_45 ?_
      have h := h.2
      refine lv_if_ne (tgt := 50) hx hb dX7_walkLoan_46 (by decide) (fun c46 => ?_) (fun c46 => ?_)
      · have h := h.1 c46
        refine lv_aload_n hx hb dX7_walkLoan_50 rfl (lv_at hl 0 rfl) ?_
        refine lv_iload_n hx hb dX7_walkLoan_51 rfl (lv_at hl 1 rfl) ?_
        refine lv_aload_n hx hb dX7_walkLoan_52 rfl (lv_at hl 0 rfl) ?_
        refine gf_X7_to C0 hw dX7_walkLoan_53 ?_
        refine lv_iload_n hx hb dX7_walkLoan_56 rfl (lv_at hl 1 rfl) ?_
        refine ld_M_to C0 hw h.1 dX7_walkLoan_57 ?_
        have h := h.2
        refine clVI (As := [.int x1, .int (gM_to S (x1).toNatClampNeg)]) (rest := []) (ci := 6) (k := 0) C0 (m_X7_goesThrough l D ad cI cJ cZ S x1 (gM_to S (x1).toNatClampNeg) _ h) cal_X7_goesThrough kw_378 kw_377 kw_376 rfl rfl rfl rfl hl.1 rfl (Nat.le_of_ble_eq_true rfl) ⟨Nat.le_of_ble_eq_true rfl, Nat.le_of_ble_eq_true rfl⟩ rfl rfl dX7_walkLoan_58 hw (fun r58 S58 H locs h hw => ?_)
        replace h := h
        refine lv_if_ne (tgt := 76) hx hb dX7_walkLoan_61 (by decide) (fun c61 => ?_) (fun c61 => ?_)
        · have h := h.1 c61
          replace hl := lv_sub hl [0, 1] rfl
          obtain ⟨n, h⟩ := h
          exact mb_X7_walkLoan_76 C0 n x1 S58 _ _ ls h hw hl
        · have h := h.2 c61
          refine lv_aload_n hx hb dX7_walkLoan_64 rfl (lv_at hl 0 rfl) ?_
          refine lv_iload_n hx hb dX7_walkLoan_65 rfl (lv_at hl 1 rfl) ?_
          refine lv_iload_n hx hb dX7_walkLoan_66 rfl (lv_at hl 1 rfl) ?_
          refine lv_aload_n hx hb dX7_walkLoan_67 rfl (lv_at hl 0 rfl) ?_
          refine gf_X7_to C0 hw dX7_walkLoan_68 ?_
          refine lv_iload_n hx hb dX7_walkLoan_71 rfl (lv_at hl 1 rfl) ?_
          refine ld_M_to C0 hw h.1 dX7_walkLoan_72 ?_
          have h := h.2
          refine clVV (As := [.int x1, .int x1, .int (gM_to S58 (x1).toNatClampNeg)]) (rest := []) (ci := 6) (k := 0) C0 (m_X7_spread l D ad cI cJ cZ S58 x1 x1 (gM_to S58 (x1).toNatClampNeg) _ h) cal_X7_spread kw_372 kw_371 kw_370 rfl rfl rfl rfl hl.1 rfl (Nat.le_of_ble_eq_true rfl) ⟨Nat.le_of_ble_eq_true rfl, Nat.le_of_ble_eq_true rfl⟩ rfl rfl dX7_walkLoan_73 hw (fun S73 H locs h hw => ?_)
          replace h := h
          replace hl := lv_sub hl [0, 1] rfl
          obtain ⟨n, h⟩ := h
          exact mb_X7_walkLoan_76 C0 n x1 S73 _ _ ls h hw hl
      · have h := h.2 c46
        exact rtV C0 hw h dX7_walkLoan_49
    · have h := h.2 c18
      refine lv_aload_n hx hb dX7_walkLoan_21 rfl (lv_at hl 0 rfl) ?_
      refine gf_X7_holds C0 hw dX7_walkLoan_22 ?_
      refine lv_sipush (v := 2400) hx hb dX7_walkLoan_25 (by decide) ?_
      refine lv_iload_n hx hb dX7_walkLoan_28 rfl (lv_at hl 2 rfl) ?_
      refine lv_imul hx hb dX7_walkLoan_29 ?_
      refine lv_iload_n hx hb dX7_walkLoan_30 rfl (lv_at hl 3 rfl) ?_
      refine lv_iadd hx hb dX7_walkLoan_31 ?_
      refine lv_iconst (v := 0) hx hb dX7_walkLoan_32 (by decide) ?_
      refine st_M_holds C0 hw h.1 dX7_walkLoan_33 (fun H locs hw => ?_)
      have h := h.2
      obtain ⟨S_1, eS_1⟩ : ∃ z, z = sM_holds S (upd (gM_holds S) (((2400 : Int32) * x2) + x3).toNatClampNeg (vp_nar .boolean (0 : Int32))) := ⟨_, rfl⟩
      rw [← eS_1] at hw
      have h := h S_1 eS_1
      obtain ⟨x3_2, ex3_2⟩ : ∃ y : Int32, y = x3 + (1 : Int32) := ⟨_, rfl⟩
      refine lv_iinc (v := x3_2) (lv' := [(3, .int x3_2), (0, .ref (ad 0)), (1, .int x1), (2, .int x2)]) hx hb dX7_walkLoan_34 hl (k := 3) rfl (by rw [ex3_2]; rfl) (by decide) rfl (fun ls hl => ?_)
      have h := h x3_2 ex3_2
      refine lv_goto (tgt := 14) hx hb dX7_walkLoan_37 (by decide) ?_
      replace hl := lv_sub hl [1, 2, 3, 0] rfl
      exact ih x1 x2 x3_2 S_1 _ _ _ h hw hl
set_option maxHeartbeats 4000000 in
set_option maxRecDepth 100000 in
theorem m_X7_walkLoan (l : Launch) (D : va_G) (ad : Nat → Nat) (cI cJ cZ : ClassId) (S : MS) (x1 : Int32) (post : MS → Prop) (h : wp_X7_walkLoan S x1 post) : CV (WM ad cI cJ cZ) D cI cJ cZ l yX7_walkLoan (.code yX7_walkLoan cX7_walkLoan 8 none :: gt) rm_X7_walkLoan S [.ref (ad 0), .int x1] post := by
  refine enV (by decide) (Nat.le_of_ble_eq_true rfl) ?_
  intro p e s m below meth c A ls C0 hw hl
  have C0 : Cx p s m _ meth c cX7_walkLoan 8 RX7 none D cI cJ cZ A := C0
  have hl : lv_has ls 8 [(0, .ref (ad 0)), (1, .int x1)] := hl
  have hx := C0.1
  have hb := C0.2.1
  unfold wp_X7_walkLoan at h
  refine lv_aload_n hx hb dX7_walkLoan_0 rfl (lv_at hl 0 rfl) ?_
  refine lv_iconst (v := 0) hx hb dX7_walkLoan_1 (by decide) ?_
  refine pf_X7_piled C0 hw dX7_walkLoan_2 (fun H locs hw => ?_)
  obtain ⟨S_1, eS_1⟩ : ∃ z, z = sM_piled S (0 : Int32) := ⟨_, rfl⟩
  rw [← eS_1] at hw
  have h := h S_1 eS_1
  refine lv_aload_n hx hb dX7_walkLoan_5 rfl (lv_at hl 0 rfl) ?_
  refine gf_X7_rowOf C0 hw dX7_walkLoan_6 ?_
  refine lv_iload_n hx hb dX7_walkLoan_9 rfl (lv_at hl 1 rfl) ?_
  refine ld_M_rowOf C0 hw h.1 dX7_walkLoan_10 ?_
  have h := h.2
  refine lv_topi (fun x2_2 ex2_2 => ?_)
  have h := h x2_2 ex2_2
  refine lv_istore_n (lv' := [(2, .int x2_2), (0, .ref (ad 0)), (1, .int x1)]) hx hb dX7_walkLoan_11 rfl hl (by decide) rfl (fun ls hl => ?_)
  refine lv_iconst (v := 0) hx hb dX7_walkLoan_12 (by decide) ?_
  refine lv_istore_n (lv' := [(3, .int (0 : Int32)), (2, .int x2_2), (0, .ref (ad 0)), (1, .int x1)]) hx hb dX7_walkLoan_13 rfl hl (by decide) rfl (fun ls hl => ?_)
  replace hl := lv_sub hl [2, 3, 1, 0] rfl
  obtain ⟨n, h⟩ := h
  exact mb_X7_walkLoan_14 C0 n x1 x2_2 (0 : Int32) S_1 _ _ ls h hw hl
abbrev rm_X7_come_come : Room := { frames := 0, cells := 0, slots := 0, locals := 0 }
set_option maxHeartbeats 4000000 in
set_option maxRecDepth 100000 in
theorem m_X7_come_come (l : Launch) (D : va_G) (ad : Nat → Nat) (cI cJ cZ : ClassId) (S : MS) (x2 : Int32) (x3 : Int32) (post : MS → Prop) (h : wp_X7_come_come S x2 x3 post) : CV (WM ad cI cJ cZ) D cI cJ cZ l yX7_come (.code yX7_come cX7_come 4 none :: gt) rm_X7_come_come S [.ref (ad 0), .ref (ad 9), .int x2, .int x3] post := by
  refine enV (by decide) (Nat.le_of_ble_eq_true rfl) ?_
  intro p e s m below meth c A ls C0 hw hl
  have C0 : Cx p s m _ meth c cX7_come 4 RX7 none D cI cJ cZ A := C0
  have hl : lv_has ls 4 [(0, .ref (ad 0)), (1, .ref (ad 9)), (2, .int x2), (3, .int x3)] := hl
  have hx := C0.1
  have hb := C0.2.1
  unfold wp_X7_come_come at h
  refine lv_aload_n hx hb dX7_come_0 rfl (lv_at hl 1 rfl) ?_
  refine lv_iload_n hx hb dX7_come_1 rfl (lv_at hl 2 rfl) ?_
  refine ld_M_come C0 hw h.1 dX7_come_2 ?_
  have h := h.2
  refine lv_if_eq (tgt := 7) hx hb dX7_come_3 (by decide) (fun c3 => ?_) (fun c3 => ?_)
  · have h := h.1 c3
    refine lv_aload_n hx hb dX7_come_7 rfl (lv_at hl 1 rfl) ?_
    refine lv_iload_n hx hb dX7_come_8 rfl (lv_at hl 2 rfl) ?_
    refine lv_iconst (v := 1) hx hb dX7_come_9 (by decide) ?_
    refine st_M_come C0 hw h.1 dX7_come_10 (fun H locs hw => ?_)
    have h := h.2
    obtain ⟨S_1, eS_1⟩ : ∃ z, z = sM_come S (upd (gM_come S) (x2).toNatClampNeg (vp_nar .boolean (1 : Int32))) := ⟨_, rfl⟩
    rw [← eS_1] at hw
    have h := h S_1 eS_1
    refine lv_aload_n hx hb dX7_come_11 rfl (lv_at hl 0 rfl) ?_
    refine gf_X7_pile C0 hw dX7_come_12 ?_
    refine lv_aload_n hx hb dX7_come_15 rfl (lv_at hl 0 rfl) ?_
    refine gf_X7_piled C0 hw dX7_come_16 ?_
    refine lv_iload_n hx hb dX7_come_19 rfl (lv_at hl 3 rfl) ?_
    refine st_M_pile C0 hw h.1 dX7_come_20 (fun H locs hw => ?_)
    have h := h.2
    obtain ⟨S_2, eS_2⟩ : ∃ z, z = sM_pile S_1 (upd (gM_pile S_1) (gM_piled S_1).toNatClampNeg x3) := ⟨_, rfl⟩
    rw [← eS_2] at hw
    have h := h S_2 eS_2
    refine lv_aload_n hx hb dX7_come_21 rfl (lv_at hl 0 rfl) ?_
    refine lv_dup hx hb dX7_come_22 rfl ?_
    refine gf_X7_piled C0 hw dX7_come_23 ?_
    refine lv_iconst (v := 1) hx hb dX7_come_26 (by decide) ?_
    refine lv_iadd hx hb dX7_come_27 ?_
    refine pf_X7_piled C0 hw dX7_come_28 (fun H locs hw => ?_)
    obtain ⟨S_3, eS_3⟩ : ∃ z, z = sM_piled S_2 ((gM_piled S_2) + (1 : Int32)) := ⟨_, rfl⟩
    rw [← eS_3] at hw
    have h := h S_3 eS_3
    exact rtV C0 hw h dX7_come_31
  · have h := h.2 c3
    exact rtV C0 hw h dX7_come_6
abbrev rm_X7_walkWays : Room := { frames := 1, cells := 0, slots := 0, locals := 23 }
set_option maxHeartbeats 4000000 in
set_option maxRecDepth 100000 in
theorem mb_X7_walkWays_113 {p : Program} {l : Launch} {e : Env} {s : State} {m : MethodId} {args : Array Value} {below : List Frame} {meth : Method} {c : Code} {D : va_G} {ad : Nat → Nat} {cI cJ cZ : ClassId} {A : Nat → Prop} {post : MS → Prop} (C0 : Cx p s m args meth c cX7_walkWays 3 RX7 none D cI cJ cZ A) (K66 : Int32 → Int32 → MS → Prop) (hK66 : ∀ (x1 : Int32) (x2 : Int32) (S : MS) (H : Heap) (locs : List Loc) (ls : Array Slot), K66 x1 x2 S → Wd (WM ad cI cJ cZ) D A s.heap H locs S → lv_has ls 3 [(0, .ref (ad 0)), (1, .int x1), (2, .int x2)] → W p l e rm_X7_walkWays s m args below meth c H locs 0 0 (QV (WM ad cI cJ cZ) D A s args below post) (F0 m 66 ls [])) :
 ∀ (x1 : Int32) (x2 : Int32) (S : MS) (H : Heap) (locs : List Loc) (ls : Array Slot), wp_X7_walkWays_113 K66 post x1 x2 S → Wd (WM ad cI cJ cZ) D A s.heap H locs S → lv_has ls 3 [(0, .ref (ad 0)), (1, .int x1), (2, .int x2)] → W p l e rm_X7_walkWays s m args below meth c H locs 0 0 (QV (WM ad cI cJ cZ) D A s args below post) (F0 m 113 ls []) := by
  have hx := C0.1
  have hb := C0.2.1
  intro x1 x2 S H locs ls h hw hl
  unfold wp_X7_walkWays_113 at h
  obtain ⟨x2_1, ex2_1⟩ : ∃ y : Int32, y = x2 + (1 : Int32) := ⟨_, rfl⟩
  refine lv_iinc (v := x2_1) (lv' := [(2, .int x2_1), (0, .ref (ad 0)), (1, .int x1)]) hx hb dX7_walkWays_113 hl (k := 2) rfl (by rw [ex2_1]; rfl) (by decide) rfl (fun ls hl => ?_)
  have h := h x2_1 ex2_1
  refine lv_goto (tgt := 66) hx hb dX7_walkWays_116 (by decide) ?_
  replace hl := lv_sub hl [1, 2, 0] rfl
  exact hK66 x1 x2_1 S _ _ _ h hw hl
set_option maxHeartbeats 4000000 in
set_option maxRecDepth 100000 in
theorem mb_X7_walkWays_66 {p : Program} {l : Launch} {e : Env} {s : State} {m : MethodId} {args : Array Value} {below : List Frame} {meth : Method} {c : Code} {D : va_G} {ad : Nat → Nat} {cI cJ cZ : ClassId} {A : Nat → Prop} {post : MS → Prop} (C0 : Cx p s m args meth c cX7_walkWays 3 RX7 none D cI cJ cZ A) (K37 : MS → Prop) (hK37 : ∀ (S : MS) (H : Heap) (locs : List Loc) (ls : Array Slot), K37 S → Wd (WM ad cI cJ cZ) D A s.heap H locs S → lv_has ls 3 [(0, .ref (ad 0))] → W p l e rm_X7_walkWays s m args below meth c H locs 0 0 (QV (WM ad cI cJ cZ) D A s args below post) (F0 m 37 ls [])) :
 ∀ (n : Nat) (x1 : Int32) (x2 : Int32) (S : MS) (H : Heap) (locs : List Loc) (ls : Array Slot), wp_X7_walkWays_66 K37 post n x1 x2 S → Wd (WM ad cI cJ cZ) D A s.heap H locs S → lv_has ls 3 [(0, .ref (ad 0)), (1, .int x1), (2, .int x2)] → W p l e rm_X7_walkWays s m args below meth c H locs 0 0 (QV (WM ad cI cJ cZ) D A s args below post) (F0 m 66 ls []) := by
  have hx := C0.1
  have hb := C0.2.1
  intro n
  induction n with
  | zero => intro x1 x2 S H locs ls h; exact h.elim
  | succ n ih =>
    intro x1 x2 S H locs ls h hw hl
    replace h : ws_X7_walkWays_66 (wp_X7_walkWays_66 K37 post n) K37 post x1 x2 S := h
    unfold ws_X7_walkWays_66 at h
    refine lv_iload_n hx hb dX7_walkWays_66 rfl (lv_at hl 2 rfl) ?_
    refine lv_iconst (v := 4) hx hb dX7_walkWays_67 (by decide) ?_
    refine lv_icmp_ge (tgt := 119) hx hb dX7_walkWays_68 (by decide) (fun c68 => ?_) (fun c68 => ?_)
    · have h := h.1 c68
      refine lv_goto (tgt := 37) hx hb dX7_walkWays_119 (by decide) ?_
      replace hl := lv_sub hl [0] rfl
      exact hK37 S _ _ _ h hw hl
    · have h := h.2 c68
      refine lv_aload_n hx hb dX7_walkWays_71 rfl (lv_at hl 0 rfl) ?_
      refine gf_X7_nexts C0 hw dX7_walkWays_72 ?_
      refine lv_iconst (v := 4) hx hb dX7_walkWays_75 (by decide) ?_
      refine lv_iload_n hx hb dX7_walkWays_76 rfl (lv_at hl 1 rfl) ?_
      refine lv_imul hx hb dX7_walkWays_77 ?_
      refine lv_iload_n hx hb dX7_walkWays_78 rfl (lv_at hl 2 rfl) ?_
      refine lv_iadd hx hb dX7_walkWays_79 ?_
      refine ld_M_nexts C0 hw h.1 dX7_walkWays_80 ?_
      have h := h.2
      refine lv_iconst (v := -1) hx hb dX7_walkWays_81 (by decide) ?_
      refine lv_icmp_eq (tgt := 113) hx hb dX7_walkWays_82 (by decide) (fun c82 => ?_) (fun c82 => ?_)
      · have h := h.1 c82
        replace hl := lv_sub hl [0, 1, 2] rfl
        exact mb_X7_walkWays_113 C0 _ ih x1 x2 S _ _ ls h hw hl
      · have h := h.2 c82
        refine lv_aload_n hx hb dX7_walkWays_85 rfl (lv_at hl 0 rfl) ?_
        refine lv_aload_n hx hb dX7_walkWays_86 rfl (lv_at hl 0 rfl) ?_
        refine gf_X7_come C0 hw dX7_walkWays_87 ?_
        refine lv_aload_n hx hb dX7_walkWays_90 rfl (lv_at hl 0 rfl) ?_
        refine gf_X7_nexts C0 hw dX7_walkWays_91 ?_
        refine lv_iconst (v := 4) hx hb dX7_walkWays_94 (by decide) ?_
        refine lv_iload_n hx hb dX7_walkWays_95 rfl (lv_at hl 1 rfl) ?_
        refine lv_imul hx hb dX7_walkWays_96 ?_
        refine lv_iload_n hx hb dX7_walkWays_97 rfl (lv_at hl 2 rfl) ?_
        refine lv_iadd hx hb dX7_walkWays_98 ?_
        refine ld_M_nexts C0 hw h.1 dX7_walkWays_99 ?_
        have h := h.2
        refine lv_aload_n hx hb dX7_walkWays_100 rfl (lv_at hl 0 rfl) ?_
        refine gf_X7_nexts C0 hw dX7_walkWays_101 ?_
        refine lv_iconst (v := 4) hx hb dX7_walkWays_104 (by decide) ?_
        refine lv_iload_n hx hb dX7_walkWays_105 rfl (lv_at hl 1 rfl) ?_
        refine lv_imul hx hb dX7_walkWays_106 ?_
        refine lv_iload_n hx hb dX7_walkWays_107 rfl (lv_at hl 2 rfl) ?_
        refine lv_iadd hx hb dX7_walkWays_108 ?_
        refine ld_M_nexts C0 hw h.1 dX7_walkWays_109 ?_
        have h := h.2
        refine clVV (As := [.ref (ad 9), .int (gM_nexts S (((4 : Int32) * x1) + x2).toNatClampNeg), .int (gM_nexts S (((4 : Int32) * x1) + x2).toNatClampNeg)]) (rest := []) (ci := 6) (k := 0) C0 (m_X7_come_come l D ad cI cJ cZ S (gM_nexts S (((4 : Int32) * x1) + x2).toNatClampNeg) (gM_nexts S (((4 : Int32) * x1) + x2).toNatClampNeg) _ h) cal_X7_come kw_328 kw_327 kw_326 rfl rfl rfl rfl hl.1 rfl (Nat.le_of_ble_eq_true rfl) ⟨Nat.le_of_ble_eq_true rfl, Nat.le_of_ble_eq_true rfl⟩ rfl rfl dX7_walkWays_110 hw (fun S110 H locs h hw => ?_)
        replace h := h
        replace hl := lv_sub hl [0, 1, 2] rfl
        exact mb_X7_walkWays_113 C0 _ ih x1 x2 S110 _ _ ls h hw hl
set_option maxHeartbeats 4000000 in
set_option maxRecDepth 100000 in
theorem mb_X7_walkWays_37 {p : Program} {l : Launch} {e : Env} {s : State} {m : MethodId} {args : Array Value} {below : List Frame} {meth : Method} {c : Code} {D : va_G} {ad : Nat → Nat} {cI cJ cZ : ClassId} {A : Nat → Prop} {post : MS → Prop} (C0 : Cx p s m args meth c cX7_walkWays 3 RX7 none D cI cJ cZ A) :
 ∀ (n : Nat) (S : MS) (H : Heap) (locs : List Loc) (ls : Array Slot), wp_X7_walkWays_37 post n S → Wd (WM ad cI cJ cZ) D A s.heap H locs S → lv_has ls 3 [(0, .ref (ad 0))] → W p l e rm_X7_walkWays s m args below meth c H locs 0 0 (QV (WM ad cI cJ cZ) D A s args below post) (F0 m 37 ls []) := by
  have hx := C0.1
  have hb := C0.2.1
  intro n
  induction n with
  | zero => intro  S H locs ls h; exact h.elim
  | succ n ih =>
    intro  S H locs ls h hw hl
    replace h : ws_X7_walkWays_37 (wp_X7_walkWays_37  post n)  post  S := h
    unfold ws_X7_walkWays_37 at h
    refine lv_aload_n hx hb dX7_walkWays_37 rfl (lv_at hl 0 rfl) ?_
    refine gf_X7_piled C0 hw dX7_walkWays_38 ?_
    refine lv_if_le (tgt := 122) hx hb dX7_walkWays_41 (by decide) (fun c41 => ?_) (fun c41 => ?_)
    · have h := h.1 c41
      exact rtV C0 hw h dX7_walkWays_122
    · have h := h.2 c41
      refine lv_aload_n hx hb dX7_walkWays_44 rfl (lv_at hl 0 rfl) ?_
      refine lv_dup hx hb dX7_walkWays_45 rfl ?_
      refine gf_X7_piled C0 hw dX7_walkWays_46 ?_
      refine lv_iconst (v := 1) hx hb dX7_walkWays_49 (by decide) ?_
      refine lv_isub hx hb dX7_walkWays_50 ?_
      refine pf_X7_piled C0 hw dX7_walkWays_51 (fun H locs hw => ?_)
      obtain ⟨S_1, eS_1⟩ : ∃ z, z = sM_piled S ((gM_piled S) - (1 : Int32)) := ⟨_, rfl⟩
      rw [← eS_1] at hw
      have h := h S_1 eS_1
      refine lv_aload_n hx hb dX7_walkWays_54 rfl (lv_at hl 0 rfl) ?_
      refine gf_X7_pile C0 hw dX7_walkWays_55 ?_
      refine lv_aload_n hx hb dX7_walkWays_58 rfl (lv_at hl 0 rfl) ?_
      refine gf_X7_piled C0 hw dX7_walkWays_59 ?_
      refine ld_M_pile C0 hw h.1 dX7_walkWays_62 ?_
      have h := h.2
      refine lv_topi (fun x1_2 ex1_2 => ?_)
      have h := h x1_2 ex1_2
      refine lv_istore_n (lv' := [(1, .int x1_2), (0, .ref (ad 0))]) hx hb dX7_walkWays_63 rfl hl (by decide) rfl (fun ls hl => ?_)
      refine lv_iconst (v := 0) hx hb dX7_walkWays_64 (by decide) ?_
      refine lv_istore_n (lv' := [(2, .int (0 : Int32)), (1, .int x1_2), (0, .ref (ad 0))]) hx hb dX7_walkWays_65 rfl hl (by decide) rfl (fun ls hl => ?_)
      replace hl := lv_sub hl [2, 1, 0] rfl
      obtain ⟨n, h⟩ := h
      exact mb_X7_walkWays_66 C0 _ ih n x1_2 (0 : Int32) S_1 _ _ ls h hw hl
set_option maxHeartbeats 4000000 in
set_option maxRecDepth 100000 in
theorem mb_X7_walkWays_2 {p : Program} {l : Launch} {e : Env} {s : State} {m : MethodId} {args : Array Value} {below : List Frame} {meth : Method} {c : Code} {D : va_G} {ad : Nat → Nat} {cI cJ cZ : ClassId} {A : Nat → Prop} {post : MS → Prop} (C0 : Cx p s m args meth c cX7_walkWays 3 RX7 none D cI cJ cZ A) :
 ∀ (n : Nat) (x1 : Int32) (S : MS) (H : Heap) (locs : List Loc) (ls : Array Slot), wp_X7_walkWays_2 post n x1 S → Wd (WM ad cI cJ cZ) D A s.heap H locs S → lv_has ls 3 [(0, .ref (ad 0)), (1, .int x1)] → W p l e rm_X7_walkWays s m args below meth c H locs 0 0 (QV (WM ad cI cJ cZ) D A s args below post) (F0 m 2 ls []) := by
  have hx := C0.1
  have hb := C0.2.1
  intro n
  induction n with
  | zero => intro x1 S H locs ls h; exact h.elim
  | succ n ih =>
    intro x1 S H locs ls h hw hl
    replace h : ws_X7_walkWays_2 (wp_X7_walkWays_2  post n)  post x1 S := h
    unfold ws_X7_walkWays_2 at h
    refine lv_iload_n hx hb dX7_walkWays_2 rfl (lv_at hl 1 rfl) ?_
    refine lv_sipush (v := 150) hx hb dX7_walkWays_3 (by decide) ?_
    refine lv_icmp_ge (tgt := 22) hx hb dX7_walkWays_6 (by decide) (fun c6 => ?_) (fun c6 => ?_)
    · have h := h.1 c6
      refine lv_aload_n hx hb dX7_walkWays_22 rfl (lv_at hl 0 rfl) ?_
      refine lv_iconst (v := 0) hx hb dX7_walkWays_23 (by decide) ?_
      refine pf_X7_piled C0 hw dX7_walkWays_24 (fun H locs hw => ?_)
      obtain ⟨S_1, eS_1⟩ : ∃ z, z = sM_piled S (0 : Int32) := ⟨_, rfl⟩
      rw [← eS_1] at hw
      have h := h S_1 eS_1
      refine lv_aload_n hx hb dX7_walkWays_27 rfl (lv_at hl 0 rfl) ?_
      refine lv_aload_n hx hb dX7_walkWays_28 rfl (lv_at hl 0 rfl) ?_
      refine gf_X7_come C0 hw dX7_walkWays_29 ?_
      refine lv_iconst (v := 0) hx hb dX7_walkWays_32 (by decide) ?_
      refine lv_iconst (v := 0) hx hb dX7_walkWays_33 (by decide) ?_
      refine clVV (As := [.ref (ad 9), .int (0 : Int32), .int (0 : Int32)]) (rest := []) (ci := 6) (k := 0) C0 (m_X7_come_come l D ad cI cJ cZ S_1 (0 : Int32) (0 : Int32) _ h) cal_X7_come kw_328 kw_327 kw_326 rfl rfl rfl rfl hl.1 rfl (Nat.le_of_ble_eq_true rfl) ⟨Nat.le_of_ble_eq_true rfl, Nat.le_of_ble_eq_true rfl⟩ rfl rfl dX7_walkWays_34 hw (fun S34 H locs h hw => ?_)
      replace h := h
      replace hl := lv_sub hl [0] rfl
      obtain ⟨n, h⟩ := h
      exact mb_X7_walkWays_37 C0 n S34 _ _ ls h hw hl
    · have h := h.2 c6
      refine lv_aload_n hx hb dX7_walkWays_9 rfl (lv_at hl 0 rfl) ?_
      refine gf_X7_come C0 hw dX7_walkWays_10 ?_
      refine lv_iload_n hx hb dX7_walkWays_13 rfl (lv_at hl 1 rfl) ?_
      refine lv_iconst (v := 0) hx hb dX7_walkWays_14 (by decide) ?_
      refine st_M_come C0 hw h.1 dX7_walkWays_15 (fun H locs hw => ?_)
      have h := h.2
      obtain ⟨S_2, eS_2⟩ : ∃ z, z = sM_come S (upd (gM_come S) (x1).toNatClampNeg (vp_nar .boolean (0 : Int32))) := ⟨_, rfl⟩
      rw [← eS_2] at hw
      have h := h S_2 eS_2
      obtain ⟨x1_3, ex1_3⟩ : ∃ y : Int32, y = x1 + (1 : Int32) := ⟨_, rfl⟩
      refine lv_iinc (v := x1_3) (lv' := [(1, .int x1_3), (0, .ref (ad 0))]) hx hb dX7_walkWays_16 hl (k := 1) rfl (by rw [ex1_3]; rfl) (by decide) rfl (fun ls hl => ?_)
      have h := h x1_3 ex1_3
      refine lv_goto (tgt := 2) hx hb dX7_walkWays_19 (by decide) ?_
      replace hl := lv_sub hl [1, 0] rfl
      exact ih x1_3 S_2 _ _ _ h hw hl
set_option maxHeartbeats 4000000 in
set_option maxRecDepth 100000 in
theorem m_X7_walkWays (l : Launch) (D : va_G) (ad : Nat → Nat) (cI cJ cZ : ClassId) (S : MS)  (post : MS → Prop) (h : wp_X7_walkWays S  post) : CV (WM ad cI cJ cZ) D cI cJ cZ l yX7_walkWays (.code yX7_walkWays cX7_walkWays 3 none :: gt) rm_X7_walkWays S [.ref (ad 0)] post := by
  refine enV (by decide) (Nat.le_of_ble_eq_true rfl) ?_
  intro p e s m below meth c A ls C0 hw hl
  have C0 : Cx p s m _ meth c cX7_walkWays 3 RX7 none D cI cJ cZ A := C0
  have hl : lv_has ls 3 [(0, .ref (ad 0))] := hl
  have hx := C0.1
  have hb := C0.2.1
  unfold wp_X7_walkWays at h
  refine lv_iconst (v := 0) hx hb dX7_walkWays_0 (by decide) ?_
  refine lv_istore_n (lv' := [(1, .int (0 : Int32)), (0, .ref (ad 0))]) hx hb dX7_walkWays_1 rfl hl (by decide) rfl (fun ls hl => ?_)
  replace hl := lv_sub hl [1, 0] rfl
  obtain ⟨n, h⟩ := h
  exact mb_X7_walkWays_2 C0 n (0 : Int32) S _ _ ls h hw hl
abbrev rm_X7_workOut : Room := { frames := 4, cells := 0, slots := 0, locals := 93 }
set_option maxHeartbeats 4000000 in
set_option maxRecDepth 100000 in
theorem mb_X7_workOut_81 {p : Program} {l : Launch} {e : Env} {s : State} {m : MethodId} {args : Array Value} {below : List Frame} {meth : Method} {c : Code} {D : va_G} {ad : Nat → Nat} {cI cJ cZ : ClassId} {A : Nat → Prop} {post : MS → Prop} (C0 : Cx p s m args meth c cX7_workOut 3 RX7 none D cI cJ cZ A) (K19 : Int32 → MS → Prop) (hK19 : ∀ (x1 : Int32) (S : MS) (H : Heap) (locs : List Loc) (ls : Array Slot), K19 x1 S → Wd (WM ad cI cJ cZ) D A s.heap H locs S → lv_has ls 3 [(0, .ref (ad 0)), (1, .int x1)] → W p l e rm_X7_workOut s m args below meth c H locs 0 0 (QV (WM ad cI cJ cZ) D A s args below post) (F0 m 19 ls [])) :
 ∀ (x1 : Int32) (S : MS) (H : Heap) (locs : List Loc) (ls : Array Slot), wp_X7_workOut_81 K19 post x1 S → Wd (WM ad cI cJ cZ) D A s.heap H locs S → lv_has ls 3 [(0, .ref (ad 0)), (1, .int x1)] → W p l e rm_X7_workOut s m args below meth c H locs 0 0 (QV (WM ad cI cJ cZ) D A s args below post) (F0 m 81 ls []) := by
  have hx := C0.1
  have hb := C0.2.1
  intro x1 S H locs ls h hw hl
  unfold wp_X7_workOut_81 at h
  obtain ⟨x1_1, ex1_1⟩ : ∃ y : Int32, y = x1 + (1 : Int32) := ⟨_, rfl⟩
  refine lv_iinc (v := x1_1) (lv' := [(1, .int x1_1), (0, .ref (ad 0))]) hx hb dX7_workOut_81 hl (k := 1) rfl (by rw [ex1_1]; rfl) (by decide) rfl (fun ls hl => ?_)
  have h := h x1_1 ex1_1
  refine lv_goto (tgt := 19) hx hb dX7_workOut_84 (by decide) ?_
  replace hl := lv_sub hl [1, 0] rfl
  exact hK19 x1_1 S _ _ _ h hw hl
set_option maxHeartbeats 4000000 in
set_option maxRecDepth 100000 in
theorem mb_X7_workOut_29 {p : Program} {l : Launch} {e : Env} {s : State} {m : MethodId} {args : Array Value} {below : List Frame} {meth : Method} {c : Code} {D : va_G} {ad : Nat → Nat} {cI cJ cZ : ClassId} {A : Nat → Prop} {post : MS → Prop} (C0 : Cx p s m args meth c cX7_workOut 3 RX7 none D cI cJ cZ A) (K19 : Int32 → MS → Prop) (hK19 : ∀ (x1 : Int32) (S : MS) (H : Heap) (locs : List Loc) (ls : Array Slot), K19 x1 S → Wd (WM ad cI cJ cZ) D A s.heap H locs S → lv_has ls 3 [(0, .ref (ad 0)), (1, .int x1)] → W p l e rm_X7_workOut s m args below meth c H locs 0 0 (QV (WM ad cI cJ cZ) D A s args below post) (F0 m 19 ls [])) :
 ∀ (n : Nat) (x1 : Int32) (x2 : Int32) (S : MS) (H : Heap) (locs : List Loc) (ls : Array Slot), wp_X7_workOut_29 K19 post n x1 x2 S → Wd (WM ad cI cJ cZ) D A s.heap H locs S → lv_has ls 3 [(0, .ref (ad 0)), (1, .int x1), (2, .int x2)] → W p l e rm_X7_workOut s m args below meth c H locs 0 0 (QV (WM ad cI cJ cZ) D A s args below post) (F0 m 29 ls []) := by
  have hx := C0.1
  have hb := C0.2.1
  intro n
  induction n with
  | zero => intro x1 x2 S H locs ls h; exact h.elim
  | succ n ih =>
    intro x1 x2 S H locs ls h hw hl
    replace h : ws_X7_workOut_29 (wp_X7_workOut_29 K19 post n) K19 post x1 x2 S := h
    unfold ws_X7_workOut_29 at h
    refine lv_iload_n hx hb dX7_workOut_29 rfl (lv_at hl 2 rfl) ?_
    refine lv_aload_n hx hb dX7_workOut_30 rfl (lv_at hl 0 rfl) ?_
    refine gf_X7_leaves C0 hw dX7_workOut_31 ?_
    refine lv_iload_n hx hb dX7_workOut_34 rfl (lv_at hl 1 rfl) ?_
    refine ld_M_lvs C0 hw h.1 dX7_workOut_35 ?_
    have h := h.2
    refine lv_icmp_ge (tgt := 67) hx hb dX7_workOut_36 (by decide) (fun c36 => ?_) (fun c36 => ?_)
    · have h := h.1 c36
      refine lv_aload_n hx hb dX7_workOut_67 rfl (lv_at hl 0 rfl) ?_
      refine gf_X7_sort C0 hw dX7_workOut_68 ?_
      refine lv_iload_n hx hb dX7_workOut_71 rfl (lv_at hl 1 rfl) ?_
      refine ld_M_sort C0 hw h.1 dX7_workOut_72 ?_
      have h := h.2
      refine lv_if_eq (tgt := 81) hx hb dX7_workOut_73 (by decide) (fun c73 => ?_) (fun c73 => ?_)
      · have h := h.1 c73
        replace hl := lv_sub hl [0, 1] rfl
        exact mb_X7_workOut_81 C0 _ hK19 x1 S _ _ ls h hw hl
      · have h := h.2 c73
        refine lv_aload_n hx hb dX7_workOut_76 rfl (lv_at hl 0 rfl) ?_
        refine lv_iload_n hx hb dX7_workOut_77 rfl (lv_at hl 1 rfl) ?_
        refine clVV (As := [.int x1]) (rest := []) (ci := 6) (k := 0) C0 (m_X7_walkUses l D ad cI cJ cZ S x1 _ h) cal_X7_walkUses kw_325 kw_324 kw_323 rfl rfl rfl rfl hl.1 rfl (Nat.le_of_ble_eq_true rfl) ⟨Nat.le_of_ble_eq_true rfl, Nat.le_of_ble_eq_true rfl⟩ rfl rfl dX7_workOut_78 hw (fun S78 H locs h hw => ?_)
        replace h := h
        replace hl := lv_sub hl [0, 1] rfl
        exact mb_X7_workOut_81 C0 _ hK19 x1 S78 _ _ ls h hw hl
    · have h := h.2 c36
      refine lv_aload_n hx hb dX7_workOut_39 rfl (lv_at hl 0 rfl) ?_
      refine lv_iload_n hx hb dX7_workOut_40 rfl (lv_at hl 1 rfl) ?_
      refine lv_iload_n hx hb dX7_workOut_41 rfl (lv_at hl 2 rfl) ?_
      refine lv_iconst (v := 0) hx hb dX7_workOut_42 (by decide) ?_
      refine lv_aload_n hx hb dX7_workOut_43 rfl (lv_at hl 0 rfl) ?_
      refine gf_X7_lost C0 hw dX7_workOut_44 ?_
      refine clVV (As := [.int x1, .int x2, .int (0 : Int32), .ref (ad 10)]) (rest := []) (ci := 6) (k := 0) C0 (m_X7_walkLeaf_lost l D ad cI cJ cZ S x1 x2 (0 : Int32) _ h) cal_X7_walkLeaf kw_340 kw_339 kw_338 rfl rfl rfl rfl hl.1 rfl (Nat.le_of_ble_eq_true rfl) ⟨Nat.le_of_ble_eq_true rfl, Nat.le_of_ble_eq_true rfl⟩ rfl rfl dX7_workOut_47 hw (fun S47 H locs h hw => ?_)
      replace h := h
      refine lv_aload_n hx hb dX7_workOut_50 rfl (lv_at hl 0 rfl) ?_
      refine lv_iload_n hx hb dX7_workOut_51 rfl (lv_at hl 1 rfl) ?_
      refine lv_iload_n hx hb dX7_workOut_52 rfl (lv_at hl 2 rfl) ?_
      refine lv_iconst (v := 1) hx hb dX7_workOut_53 (by decide) ?_
      refine lv_aload_n hx hb dX7_workOut_54 rfl (lv_at hl 0 rfl) ?_
      refine gf_X7_had C0 hw dX7_workOut_55 ?_
      refine clVV (As := [.int x1, .int x2, .int (1 : Int32), .ref (ad 11)]) (rest := []) (ci := 6) (k := 0) C0 (m_X7_walkLeaf_had l D ad cI cJ cZ S47 x1 x2 (1 : Int32) _ h) cal_X7_walkLeaf kw_340 kw_339 kw_338 rfl rfl rfl rfl hl.1 rfl (Nat.le_of_ble_eq_true rfl) ⟨Nat.le_of_ble_eq_true rfl, Nat.le_of_ble_eq_true rfl⟩ rfl rfl dX7_workOut_58 hw (fun S58 H locs h hw => ?_)
      replace h := h
      obtain ⟨x2_1, ex2_1⟩ : ∃ y : Int32, y = x2 + (1 : Int32) := ⟨_, rfl⟩
      refine lv_iinc (v := x2_1) (lv' := [(2, .int x2_1), (0, .ref (ad 0)), (1, .int x1)]) hx hb dX7_workOut_61 hl (k := 2) rfl (by rw [ex2_1]; rfl) (by decide) rfl (fun ls hl => ?_)
      have h := h x2_1 ex2_1
      refine lv_goto (tgt := 29) hx hb dX7_workOut_64 (by decide) ?_
      replace hl := lv_sub hl [1, 2, 0] rfl
      exact ih x1 x2_1 S58 _ _ _ h hw hl
set_option maxHeartbeats 4000000 in
set_option maxRecDepth 100000 in
theorem mb_X7_workOut_131 {p : Program} {l : Launch} {e : Env} {s : State} {m : MethodId} {args : Array Value} {below : List Frame} {meth : Method} {c : Code} {D : va_G} {ad : Nat → Nat} {cI cJ cZ : ClassId} {A : Nat → Prop} {post : MS → Prop} (C0 : Cx p s m args meth c cX7_workOut 3 RX7 none D cI cJ cZ A) (K91 : Int32 → Int32 → MS → Prop) (hK91 : ∀ (x1 : Int32) (x2 : Int32) (S : MS) (H : Heap) (locs : List Loc) (ls : Array Slot), K91 x1 x2 S → Wd (WM ad cI cJ cZ) D A s.heap H locs S → lv_has ls 3 [(0, .ref (ad 0)), (1, .int x1), (2, .int x2)] → W p l e rm_X7_workOut s m args below meth c H locs 0 0 (QV (WM ad cI cJ cZ) D A s args below post) (F0 m 91 ls [])) :
 ∀ (x1 : Int32) (x2 : Int32) (S : MS) (H : Heap) (locs : List Loc) (ls : Array Slot), wp_X7_workOut_131 K91 post x1 x2 S → Wd (WM ad cI cJ cZ) D A s.heap H locs S → lv_has ls 3 [(0, .ref (ad 0)), (1, .int x1), (2, .int x2)] → W p l e rm_X7_workOut s m args below meth c H locs 0 0 (QV (WM ad cI cJ cZ) D A s args below post) (F0 m 131 ls []) := by
  have hx := C0.1
  have hb := C0.2.1
  intro x1 x2 S H locs ls h hw hl
  unfold wp_X7_workOut_131 at h
  obtain ⟨x2_1, ex2_1⟩ : ∃ y : Int32, y = x2 + (1 : Int32) := ⟨_, rfl⟩
  refine lv_iinc (v := x2_1) (lv' := [(2, .int x2_1), (0, .ref (ad 0)), (1, .int x1)]) hx hb dX7_workOut_131 hl (k := 2) rfl (by rw [ex2_1]; rfl) (by decide) rfl (fun ls hl => ?_)
  have h := h x2_1 ex2_1
  refine lv_goto (tgt := 91) hx hb dX7_workOut_134 (by decide) ?_
  replace hl := lv_sub hl [1, 2, 0] rfl
  exact hK91 x1 x2_1 S _ _ _ h hw hl
set_option maxHeartbeats 4000000 in
set_option maxRecDepth 100000 in
theorem mb_X7_workOut_184 {p : Program} {l : Launch} {e : Env} {s : State} {m : MethodId} {args : Array Value} {below : List Frame} {meth : Method} {c : Code} {D : va_G} {ad : Nat → Nat} {cI cJ cZ : ClassId} {A : Nat → Prop} {post : MS → Prop} (C0 : Cx p s m args meth c cX7_workOut 3 RX7 none D cI cJ cZ A) (K166 : Int32 → MS → Prop) (hK166 : ∀ (x2 : Int32) (S : MS) (H : Heap) (locs : List Loc) (ls : Array Slot), K166 x2 S → Wd (WM ad cI cJ cZ) D A s.heap H locs S → lv_has ls 3 [(0, .ref (ad 0)), (2, .int x2)] → W p l e rm_X7_workOut s m args below meth c H locs 0 0 (QV (WM ad cI cJ cZ) D A s args below post) (F0 m 166 ls [])) :
 ∀ (x2 : Int32) (S : MS) (H : Heap) (locs : List Loc) (ls : Array Slot), wp_X7_workOut_184 K166 post x2 S → Wd (WM ad cI cJ cZ) D A s.heap H locs S → lv_has ls 3 [(0, .ref (ad 0)), (2, .int x2)] → W p l e rm_X7_workOut s m args below meth c H locs 0 0 (QV (WM ad cI cJ cZ) D A s args below post) (F0 m 184 ls []) := by
  have hx := C0.1
  have hb := C0.2.1
  intro x2 S H locs ls h hw hl
  unfold wp_X7_workOut_184 at h
  obtain ⟨x2_1, ex2_1⟩ : ∃ y : Int32, y = x2 + (-1 : Int32) := ⟨_, rfl⟩
  refine lv_iinc (v := x2_1) (lv' := [(2, .int x2_1), (0, .ref (ad 0))]) hx hb dX7_workOut_184 hl (k := 1) rfl (by rw [ex2_1]; rfl) (by decide) rfl (fun ls hl => ?_)
  have h := h x2_1 ex2_1
  refine lv_goto (tgt := 166) hx hb dX7_workOut_187 (by decide) ?_
  replace hl := lv_sub hl [1, 0] rfl
  exact hK166 x2_1 S _ _ _ h hw hl
set_option maxHeartbeats 4000000 in
set_option maxRecDepth 100000 in
theorem mb_X7_workOut_166 {p : Program} {l : Launch} {e : Env} {s : State} {m : MethodId} {args : Array Value} {below : List Frame} {meth : Method} {c : Code} {D : va_G} {ad : Nat → Nat} {cI cJ cZ : ClassId} {A : Nat → Prop} {post : MS → Prop} (C0 : Cx p s m args meth c cX7_workOut 3 RX7 none D cI cJ cZ A) :
 ∀ (n : Nat) (x2 : Int32) (S : MS) (H : Heap) (locs : List Loc) (ls : Array Slot), wp_X7_workOut_166 post n x2 S → Wd (WM ad cI cJ cZ) D A s.heap H locs S → lv_has ls 3 [(0, .ref (ad 0)), (2, .int x2)] → W p l e rm_X7_workOut s m args below meth c H locs 0 0 (QV (WM ad cI cJ cZ) D A s args below post) (F0 m 166 ls []) := by
  have hx := C0.1
  have hb := C0.2.1
  intro n
  induction n with
  | zero => intro x2 S H locs ls h; exact h.elim
  | succ n ih =>
    intro x2 S H locs ls h hw hl
    replace h : ws_X7_workOut_166 (wp_X7_workOut_166  post n)  post x2 S := h
    unfold ws_X7_workOut_166 at h
    refine lv_iload_n hx hb dX7_workOut_166 rfl (lv_at hl 1 rfl) ?_
    refine lv_if_lt (tgt := 190) hx hb dX7_workOut_167 (by decide) (fun c167 => ?_) (fun c167 => ?_)
    · have h := h.1 c167
      refine lv_aload_n hx hb dX7_workOut_190 rfl (lv_at hl 0 rfl) ?_
      refine gf_X7_fault C0 hw dX7_workOut_191 ?_
      refine lv_iconst (v := 3) hx hb dX7_workOut_194 (by decide) ?_
      refine lv_icmp_ne (tgt := 210) hx hb dX7_workOut_195 (by decide) (fun c195 => ?_) (fun c195 => ?_)
      · have h := h.1 c195
        exact rtV C0 hw h dX7_workOut_210
      · have h := h.2 c195
        refine lv_aload_n hx hb dX7_workOut_198 rfl (lv_at hl 0 rfl) ?_
        refine lv_aload_n hx hb dX7_workOut_199 rfl (lv_at hl 0 rfl) ?_
        refine lv_aload_n hx hb dX7_workOut_200 rfl (lv_at hl 0 rfl) ?_
        refine gf_X7_faultPoint C0 hw dX7_workOut_201 ?_
        refine clVI (As := [.int (gM_faultP S)]) (rest := [.ref (ad 0)]) (ci := 6) (k := 0) C0 (m_X7_taker l D ad cI cJ cZ S (gM_faultP S) _ h) cal_X7_taker kw_349 kw_348 kw_347 rfl rfl rfl rfl hl.1 rfl (Nat.le_of_ble_eq_true rfl) ⟨Nat.le_of_ble_eq_true rfl, Nat.le_of_ble_eq_true rfl⟩ rfl rfl dX7_workOut_204 hw (fun r204 S204 H locs h hw => ?_)
        replace h := h
        refine pf_X7_otherPoint C0 hw dX7_workOut_207 (fun H locs hw => ?_)
        obtain ⟨S_1, eS_1⟩ : ∃ z, z = sM_otherP S204 r204 := ⟨_, rfl⟩
        rw [← eS_1] at hw
        have h := h S_1 eS_1
        exact rtV C0 hw h dX7_workOut_210
    · have h := h.2 c167
      refine lv_aload_n hx hb dX7_workOut_170 rfl (lv_at hl 0 rfl) ?_
      refine gf_X7_come C0 hw dX7_workOut_171 ?_
      refine lv_iload_n hx hb dX7_workOut_174 rfl (lv_at hl 1 rfl) ?_
      refine ld_M_come C0 hw h.1 dX7_workOut_175 ?_
      have h := h.2
      refine lv_if_eq (tgt := 184) hx hb dX7_workOut_176 (by decide) (fun c176 => ?_) (fun c176 => ?_)
      · have h := h.1 c176
        replace hl := lv_sub hl [0, 1] rfl
        exact mb_X7_workOut_184 C0 _ ih x2 S _ _ ls h hw hl
      · have h := h.2 c176
        refine lv_aload_n hx hb dX7_workOut_179 rfl (lv_at hl 0 rfl) ?_
        refine lv_iload_n hx hb dX7_workOut_180 rfl (lv_at hl 1 rfl) ?_
        refine clVV (As := [.int x2]) (rest := []) (ci := 6) (k := 0) C0 (m_X7_look l D ad cI cJ cZ S x2 _ h) cal_X7_look kw_366 kw_365 kw_364 rfl rfl rfl rfl hl.1 rfl (Nat.le_of_ble_eq_true rfl) ⟨Nat.le_of_ble_eq_true rfl, Nat.le_of_ble_eq_true rfl⟩ rfl rfl dX7_workOut_181 hw (fun S181 H locs h hw => ?_)
        replace h := h
        replace hl := lv_sub hl [0, 1] rfl
        exact mb_X7_workOut_184 C0 _ ih x2 S181 _ _ ls h hw hl
set_option maxHeartbeats 4000000 in
set_option maxRecDepth 100000 in
theorem mb_X7_workOut_91 {p : Program} {l : Launch} {e : Env} {s : State} {m : MethodId} {args : Array Value} {below : List Frame} {meth : Method} {c : Code} {D : va_G} {ad : Nat → Nat} {cI cJ cZ : ClassId} {A : Nat → Prop} {post : MS → Prop} (C0 : Cx p s m args meth c cX7_workOut 3 RX7 none D cI cJ cZ A) :
 ∀ (n : Nat) (x1 : Int32) (x2 : Int32) (S : MS) (H : Heap) (locs : List Loc) (ls : Array Slot), wp_X7_workOut_91 post n x1 x2 S → Wd (WM ad cI cJ cZ) D A s.heap H locs S → lv_has ls 3 [(0, .ref (ad 0)), (1, .int x1), (2, .int x2)] → W p l e rm_X7_workOut s m args below meth c H locs 0 0 (QV (WM ad cI cJ cZ) D A s args below post) (F0 m 91 ls []) := by
  have hx := C0.1
  have hb := C0.2.1
  intro n
  induction n with
  | zero => intro x1 x2 S H locs ls h; exact h.elim
  | succ n ih =>
    intro x1 x2 S H locs ls h hw hl
    replace h : ws_X7_workOut_91 (wp_X7_workOut_91  post n)  post x1 x2 S := h
    unfold ws_X7_workOut_91 at h
    refine lv_iload_n hx hb dX7_workOut_91 rfl (lv_at hl 2 rfl) ?_
    refine lv_sipush (v := 150) hx hb dX7_workOut_92 (by decide) ?_
    refine lv_icmp_ge (tgt := 137) hx hb dX7_workOut_95 (by decide) (fun c95 => ?_) (fun c95 => ?_)
    · have h := h.1 c95
      refine lv_aload_n hx hb dX7_workOut_137 rfl (lv_at hl 0 rfl) ?_
      refine lv_iconst (v := 0) hx hb dX7_workOut_138 (by decide) ?_
      refine pf_X7_fault C0 hw dX7_workOut_139 (fun H locs hw => ?_)
      obtain ⟨S_1, eS_1⟩ : ∃ z, z = sM_fault S (0 : Int32) := ⟨_, rfl⟩
      rw [← eS_1] at hw
      have h := h S_1 eS_1
      refine lv_aload_n hx hb dX7_workOut_142 rfl (lv_at hl 0 rfl) ?_
      refine lv_iconst (v := -1) hx hb dX7_workOut_143 (by decide) ?_
      refine pf_X7_faultPoint C0 hw dX7_workOut_144 (fun H locs hw => ?_)
      obtain ⟨S_2, eS_2⟩ : ∃ z, z = sM_faultP S_1 (-1 : Int32) := ⟨_, rfl⟩
      rw [← eS_2] at hw
      have h := h S_2 eS_2
      refine lv_aload_n hx hb dX7_workOut_147 rfl (lv_at hl 0 rfl) ?_
      refine lv_iconst (v := -1) hx hb dX7_workOut_148 (by decide) ?_
      refine pf_X7_otherPoint C0 hw dX7_workOut_149 (fun H locs hw => ?_)
      obtain ⟨S_3, eS_3⟩ : ∃ z, z = sM_otherP S_2 (-1 : Int32) := ⟨_, rfl⟩
      rw [← eS_3] at hw
      have h := h S_3 eS_3
      refine lv_aload_n hx hb dX7_workOut_152 rfl (lv_at hl 0 rfl) ?_
      refine lv_iconst (v := 0) hx hb dX7_workOut_153 (by decide) ?_
      refine pf_X7_lacking C0 hw dX7_workOut_154 (fun H locs hw => ?_)
      obtain ⟨S_4, eS_4⟩ : ∃ z, z = sM_lacking S_3 (0 : Int32) := ⟨_, rfl⟩
      rw [← eS_4] at hw
      have h := h S_4 eS_4
      refine lv_aload_n hx hb dX7_workOut_157 rfl (lv_at hl 0 rfl) ?_
      refine lv_iconst (v := 0) hx hb dX7_workOut_158 (by decide) ?_
      refine pf_X7_clashing C0 hw dX7_workOut_159 (fun H locs hw => ?_)
      obtain ⟨S_5, eS_5⟩ : ∃ z, z = sM_clashing S_4 (0 : Int32) := ⟨_, rfl⟩
      rw [← eS_5] at hw
      have h := h S_5 eS_5
      refine lv_sipush (v := 149) hx hb dX7_workOut_162 (by decide) ?_
      refine lv_istore_n (lv' := [(2, .int (149 : Int32)), (0, .ref (ad 0)), (1, .int x1)]) hx hb dX7_workOut_165 rfl hl (by decide) rfl (fun ls hl => ?_)
      replace hl := lv_sub hl [1, 0] rfl
      obtain ⟨n, h⟩ := h
      exact mb_X7_workOut_166 C0 n (149 : Int32) S_5 _ _ ls h hw hl
    · have h := h.2 c95
      refine lv_aload_n hx hb dX7_workOut_98 rfl (lv_at hl 0 rfl) ?_
      refine gf_X7_rowOf C0 hw dX7_workOut_99 ?_
      refine lv_iload_n hx hb dX7_workOut_102 rfl (lv_at hl 2 rfl) ?_
      refine lv_iconst (v := -1) hx hb dX7_workOut_103 (by decide) ?_
      refine st_M_rowOf C0 hw h.1 dX7_workOut_104 (fun H locs hw => ?_)
      have h := h.2
      obtain ⟨S_6, eS_6⟩ : ∃ z, z = sM_rowOf S (upd (gM_rowOf S) (x2).toNatClampNeg (-1 : Int32)) := ⟨_, rfl⟩
      rw [← eS_6] at hw
      have h := h S_6 eS_6
      refine lv_aload_n hx hb dX7_workOut_105 rfl (lv_at hl 0 rfl) ?_
      refine lv_iload_n hx hb dX7_workOut_106 rfl (lv_at hl 2 rfl) ?_
      refine clVI (As := [.int x2]) (rest := []) (ci := 6) (k := 0) C0 (m_X7_makesLoan l D ad cI cJ cZ S_6 x2 _ h) cal_X7_makesLoan kw_369 kw_368 kw_367 rfl rfl rfl rfl hl.1 rfl (Nat.le_of_ble_eq_true rfl) ⟨Nat.le_of_ble_eq_true rfl, Nat.le_of_ble_eq_true rfl⟩ rfl rfl dX7_workOut_107 hw (fun r107 S107 H locs h hw => ?_)
      replace h := h
      refine lv_if_ne (tgt := 116) hx hb dX7_workOut_110 (by decide) (fun c110 => ?_) (fun c110 => ?_)
      · have h := h.1 c110
        refine lv_aload_n hx hb dX7_workOut_116 rfl (lv_at hl 0 rfl) ?_
        refine gf_X7_rowOf C0 hw dX7_workOut_117 ?_
        refine lv_iload_n hx hb dX7_workOut_120 rfl (lv_at hl 2 rfl) ?_
        refine lv_iload_n hx hb dX7_workOut_121 rfl (lv_at hl 1 rfl) ?_
        refine st_M_rowOf C0 hw h.1 dX7_workOut_122 (fun H locs hw => ?_)
        have h := h.2
        obtain ⟨S_7, eS_7⟩ : ∃ z, z = sM_rowOf S107 (upd (gM_rowOf S107) (x2).toNatClampNeg x1) := ⟨_, rfl⟩
        rw [← eS_7] at hw
        have h := h S_7 eS_7
        obtain ⟨x1_8, ex1_8⟩ : ∃ y : Int32, y = x1 + (1 : Int32) := ⟨_, rfl⟩
        refine lv_iinc (v := x1_8) (lv' := [(1, .int x1_8), (0, .ref (ad 0)), (2, .int x2)]) hx hb dX7_workOut_123 hl (k := 1) rfl (by rw [ex1_8]; rfl) (by decide) rfl (fun ls hl => ?_)
        have h := h x1_8 ex1_8
        refine lv_aload_n hx hb dX7_workOut_126 rfl (lv_at hl 1 rfl) ?_
        refine lv_iload_n hx hb dX7_workOut_127 rfl (lv_at hl 2 rfl) ?_
        refine clVV (As := [.int x2]) (rest := []) (ci := 6) (k := 0) C0 (m_X7_walkLoan l D ad cI cJ cZ S_7 x2 _ h) cal_X7_walkLoan kw_381 kw_380 kw_379 rfl rfl rfl rfl hl.1 rfl (Nat.le_of_ble_eq_true rfl) ⟨Nat.le_of_ble_eq_true rfl, Nat.le_of_ble_eq_true rfl⟩ rfl rfl dX7_workOut_128 hw (fun S128 H locs h hw => ?_)
        replace h := h
        replace hl := lv_sub hl [1, 0, 2] rfl
        exact mb_X7_workOut_131 C0 _ ih x1_8 x2 S128 _ _ ls h hw hl
      · have h := h.2 c110
        refine lv_goto (tgt := 131) hx hb dX7_workOut_113 (by decide) ?_
        replace hl := lv_sub hl [0, 1, 2] rfl
        exact mb_X7_workOut_131 C0 _ ih x1 x2 S107 _ _ ls h hw hl
set_option maxHeartbeats 4000000 in
set_option maxRecDepth 100000 in
theorem mb_X7_workOut_19 {p : Program} {l : Launch} {e : Env} {s : State} {m : MethodId} {args : Array Value} {below : List Frame} {meth : Method} {c : Code} {D : va_G} {ad : Nat → Nat} {cI cJ cZ : ClassId} {A : Nat → Prop} {post : MS → Prop} (C0 : Cx p s m args meth c cX7_workOut 3 RX7 none D cI cJ cZ A) :
 ∀ (n : Nat) (x1 : Int32) (S : MS) (H : Heap) (locs : List Loc) (ls : Array Slot), wp_X7_workOut_19 post n x1 S → Wd (WM ad cI cJ cZ) D A s.heap H locs S → lv_has ls 3 [(0, .ref (ad 0)), (1, .int x1)] → W p l e rm_X7_workOut s m args below meth c H locs 0 0 (QV (WM ad cI cJ cZ) D A s args below post) (F0 m 19 ls []) := by
  have hx := C0.1
  have hb := C0.2.1
  intro n
  induction n with
  | zero => intro x1 S H locs ls h; exact h.elim
  | succ n ih =>
    intro x1 S H locs ls h hw hl
    replace h : ws_X7_workOut_19 (wp_X7_workOut_19  post n)  post x1 S := h
    unfold ws_X7_workOut_19 at h
    refine lv_iload_n hx hb dX7_workOut_19 rfl (lv_at hl 1 rfl) ?_
    refine lv_aload_n hx hb dX7_workOut_20 rfl (lv_at hl 0 rfl) ?_
    refine gf_X7_variables C0 hw dX7_workOut_21 ?_
    refine lv_icmp_ge (tgt := 87) hx hb dX7_workOut_24 (by decide) (fun c24 => ?_) (fun c24 => ?_)
    · have h := h.1 c24
      refine lv_iconst (v := 0) hx hb dX7_workOut_87 (by decide) ?_
      refine lv_istore_n (lv' := [(1, .int (0 : Int32)), (0, .ref (ad 0))]) hx hb dX7_workOut_88 rfl hl (by decide) rfl (fun ls hl => ?_)
      refine lv_iconst (v := 0) hx hb dX7_workOut_89 (by decide) ?_
      refine lv_istore_n (lv' := [(2, .int (0 : Int32)), (1, .int (0 : Int32)), (0, .ref (ad 0))]) hx hb dX7_workOut_90 rfl hl (by decide) rfl (fun ls hl => ?_)
      replace hl := lv_sub hl [2, 1, 0] rfl
      obtain ⟨n, h⟩ := h
      exact mb_X7_workOut_91 C0 n (0 : Int32) (0 : Int32) S _ _ ls h hw hl
    · have h := h.2 c24
      refine lv_iconst (v := 0) hx hb dX7_workOut_27 (by decide) ?_
      refine lv_istore_n (lv' := [(2, .int (0 : Int32)), (0, .ref (ad 0)), (1, .int x1)]) hx hb dX7_workOut_28 rfl hl (by decide) rfl (fun ls hl => ?_)
      replace hl := lv_sub hl [1, 2, 0] rfl
      obtain ⟨n, h⟩ := h
      exact mb_X7_workOut_29 C0 _ ih n x1 (0 : Int32) S _ _ ls h hw hl
set_option maxHeartbeats 4000000 in
set_option maxRecDepth 100000 in
theorem m_X7_workOut (l : Launch) (D : va_G) (ad : Nat → Nat) (cI cJ cZ : ClassId) (S : MS)  (post : MS → Prop) (h : wp_X7_workOut S  post) : CV (WM ad cI cJ cZ) D cI cJ cZ l yX7_workOut (.code yX7_workOut cX7_workOut 3 none :: gt) rm_X7_workOut S [.ref (ad 0)] post := by
  refine enV (by decide) (Nat.le_of_ble_eq_true rfl) ?_
  intro p e s m below meth c A ls C0 hw hl
  have C0 : Cx p s m _ meth c cX7_workOut 3 RX7 none D cI cJ cZ A := C0
  have hl : lv_has ls 3 [(0, .ref (ad 0))] := hl
  have hx := C0.1
  have hb := C0.2.1
  unfold wp_X7_workOut at h
  refine lv_aload_n hx hb dX7_workOut_0 rfl (lv_at hl 0 rfl) ?_
  refine gf_X7_isOld C0 hw dX7_workOut_1 ?_
  refine lv_if_ne (tgt := 8) hx hb dX7_workOut_4 (by decide) (fun c4 => ?_) (fun c4 => ?_)
  · have h := h.1 c4
    refine lv_aload_n hx hb dX7_workOut_8 rfl (lv_at hl 0 rfl) ?_
    refine lv_iconst (v := 0) hx hb dX7_workOut_9 (by decide) ?_
    refine pf_X7_isOld C0 hw (Or.inl rfl) dX7_workOut_10 (fun H locs hw => ?_)
    obtain ⟨S_1, eS_1⟩ : ∃ z, z = sM_isOld S (0 : Int32) := ⟨_, rfl⟩
    rw [← eS_1] at hw
    have h := h S_1 eS_1
    refine lv_aload_n hx hb dX7_workOut_13 rfl (lv_at hl 0 rfl) ?_
    refine clVV (As := []) (rest := []) (ci := 6) (k := 0) C0 (m_X7_walkWays l D ad cI cJ cZ S_1 _ h) cal_X7_walkWays kw_384 kw_383 kw_382 rfl rfl rfl rfl hl.1 rfl (Nat.le_of_ble_eq_true rfl) ⟨Nat.le_of_ble_eq_true rfl, Nat.le_of_ble_eq_true rfl⟩ rfl rfl dX7_workOut_14 hw (fun S14 H locs h hw => ?_)
    replace h := h
    refine lv_iconst (v := 0) hx hb dX7_workOut_17 (by decide) ?_
    refine lv_istore_n (lv' := [(1, .int (0 : Int32)), (0, .ref (ad 0))]) hx hb dX7_workOut_18 rfl hl (by decide) rfl (fun ls hl => ?_)
    replace hl := lv_sub hl [1, 0] rfl
    obtain ⟨n, h⟩ := h
    exact mb_X7_workOut_19 C0 n (0 : Int32) S14 _ _ ls h hw hl
  · have h := h.2 c4
    exact rtV C0 hw h dX7_workOut_7
abbrev rm_X7_judge : Room := { frames := 5, cells := 0, slots := 0, locals := 115 }
set_option maxHeartbeats 4000000 in
set_option maxRecDepth 100000 in
theorem m_X7_judge (l : Launch) (D : va_G) (ad : Nat → Nat) (cI cJ cZ : ClassId) (S : MS)  (post : Int32 → MS → Prop) (h : wp_X7_judge S  post) : CI (WM ad cI cJ cZ) D cI cJ cZ l yX7_judge (.code yX7_judge cX7_judge 1 (some .int) :: gt) rm_X7_judge S [.ref (ad 0)] post := by
  refine enI (by decide) (Nat.le_of_ble_eq_true rfl) ?_
  intro p e s m below meth c A ls C0 hw hl
  have C0 : Cx p s m _ meth c cX7_judge 1 RX7 (some .int) D cI cJ cZ A := C0
  have hl : lv_has ls 1 [(0, .ref (ad 0))] := hl
  have hx := C0.1
  have hb := C0.2.1
  unfold wp_X7_judge at h
  refine lv_aload_n hx hb dX7_judge_0 rfl (lv_at hl 0 rfl) ?_
  refine clVV (As := []) (rest := []) (ci := 6) (k := 0) C0 (m_X7_workOut l D ad cI cJ cZ S _ h) cal_X7_workOut kw_387 kw_386 kw_385 rfl rfl rfl rfl hl.1 rfl (Nat.le_of_ble_eq_true rfl) ⟨Nat.le_of_ble_eq_true rfl, Nat.le_of_ble_eq_true rfl⟩ rfl rfl dX7_judge_1 hw (fun S1 H locs h hw => ?_)
  replace h := h
  refine lv_aload_n hx hb dX7_judge_4 rfl (lv_at hl 0 rfl) ?_
  refine gf_X7_fault C0 hw dX7_judge_5 ?_
  exact rtI C0 hw h dX7_judge_8
abbrev rm_X7_fault : Room := { frames := 5, cells := 0, slots := 0, locals := 115 }
set_option maxHeartbeats 4000000 in
set_option maxRecDepth 100000 in
theorem m_X7_fault (l : Launch) (D : va_G) (ad : Nat → Nat) (cI cJ cZ : ClassId) (S : MS) (x1 : Int32) (post : Int32 → MS → Prop) (h : wp_X7_fault S x1 post) : CI (WM ad cI cJ cZ) D cI cJ cZ l yX7_fault (.code yX7_fault cX7_fault 2 (some .int) :: gt) rm_X7_fault S [.ref (ad 0), .int x1] post := by
  refine enI (by decide) (Nat.le_of_ble_eq_true rfl) ?_
  intro p e s m below meth c A ls C0 hw hl
  have C0 : Cx p s m _ meth c cX7_fault 2 RX7 (some .int) D cI cJ cZ A := C0
  have hl : lv_has ls 2 [(0, .ref (ad 0)), (1, .int x1)] := hl
  have hx := C0.1
  have hb := C0.2.1
  unfold wp_X7_fault at h
  refine lv_aload_n hx hb dX7_fault_0 rfl (lv_at hl 0 rfl) ?_
  refine clVV (As := []) (rest := []) (ci := 6) (k := 0) C0 (m_X7_workOut l D ad cI cJ cZ S _ h) cal_X7_workOut kw_387 kw_386 kw_385 rfl rfl rfl rfl hl.1 rfl (Nat.le_of_ble_eq_true rfl) ⟨Nat.le_of_ble_eq_true rfl, Nat.le_of_ble_eq_true rfl⟩ rfl rfl dX7_fault_1 hw (fun S1 H locs h hw => ?_)
  replace h := h
  refine lv_aload_n hx hb dX7_fault_4 rfl (lv_at hl 0 rfl) ?_
  refine gf_X7_fault C0 hw dX7_fault_5 ?_
  refine lv_if_ne (tgt := 15) hx hb dX7_fault_8 (by decide) (fun c8 => ?_) (fun c8 => ?_)
  · have h := h.1 c8
    refine lv_iload_n hx hb dX7_fault_15 rfl (lv_at hl 1 rfl) ?_
    refine lv_iconst (v := 1) hx hb dX7_fault_16 (by decide) ?_
    refine lv_icmp_ne (tgt := 27) hx hb dX7_fault_17 (by decide) (fun c17 => ?_) (fun c17 => ?_)
    · have h := h.1 c17
      refine lv_iload_n hx hb dX7_fault_27 rfl (lv_at hl 1 rfl) ?_
      refine lv_iconst (v := 2) hx hb dX7_fault_28 (by decide) ?_
      refine lv_icmp_ne (tgt := 39) hx hb dX7_fault_29 (by decide) (fun c29 => ?_) (fun c29 => ?_)
      · have h := h.1 c29
        refine lv_iconst (v := -1) hx hb dX7_fault_39 (by decide) ?_
        exact rtI C0 hw h dX7_fault_40
      · have h := h.2 c29
        refine lv_aload_n hx hb dX7_fault_32 rfl (lv_at hl 0 rfl) ?_
        refine gf_X7_otherPoint C0 hw dX7_fault_33 ?_
        refine lv_goto (tgt := 40) hx hb dX7_fault_36 (by decide) ?_
        exact rtI C0 hw h dX7_fault_40
    · have h := h.2 c17
      refine lv_aload_n hx hb dX7_fault_20 rfl (lv_at hl 0 rfl) ?_
      refine gf_X7_faultPoint C0 hw dX7_fault_21 ?_
      refine lv_goto (tgt := 40) hx hb dX7_fault_24 (by decide) ?_
      exact rtI C0 hw h dX7_fault_40
  · have h := h.2 c8
    refine lv_iconst (v := -1) hx hb dX7_fault_11 (by decide) ?_
    refine lv_goto (tgt := 40) hx hb dX7_fault_12 (by decide) ?_
    exact rtI C0 hw h dX7_fault_40
abbrev rm_X7_comes : Room := { frames := 5, cells := 0, slots := 0, locals := 115 }
set_option maxHeartbeats 4000000 in
set_option maxRecDepth 100000 in
theorem m_X7_comes (l : Launch) (D : va_G) (ad : Nat → Nat) (cI cJ cZ : ClassId) (S : MS) (x1 : Int32) (post : Int32 → MS → Prop) (h : wp_X7_comes S x1 post) : CI (WM ad cI cJ cZ) D cI cJ cZ l yX7_comes (.code yX7_comes cX7_comes 2 (some .int) :: gt) rm_X7_comes S [.ref (ad 0), .int x1] post := by
  refine enI (by decide) (Nat.le_of_ble_eq_true rfl) ?_
  intro p e s m below meth c A ls C0 hw hl
  have C0 : Cx p s m _ meth c cX7_comes 2 RX7 (some .int) D cI cJ cZ A := C0
  have hl : lv_has ls 2 [(0, .ref (ad 0)), (1, .int x1)] := hl
  have hx := C0.1
  have hb := C0.2.1
  unfold wp_X7_comes at h
  refine lv_iload_n hx hb dX7_comes_0 rfl (lv_at hl 1 rfl) ?_
  refine clSI (As := [.int x1]) (rest := []) C0 (m_X7_isPoint l D ad cI cJ cZ S x1 _ h) cal_X7_isPoint kw_302 kw_301 rfl hl.1 rfl (Nat.le_of_ble_eq_true rfl) ⟨Nat.le_of_ble_eq_true rfl, Nat.le_of_ble_eq_true rfl⟩ rfl rfl dX7_comes_1 hw (fun r1 S1 H locs h hw => ?_)
  replace h := h
  refine lv_if_ne (tgt := 9) hx hb dX7_comes_4 (by decide) (fun c4 => ?_) (fun c4 => ?_)
  · have h := h.1 c4
    refine lv_aload_n hx hb dX7_comes_9 rfl (lv_at hl 0 rfl) ?_
    refine clVV (As := []) (rest := []) (ci := 6) (k := 0) C0 (m_X7_workOut l D ad cI cJ cZ S1 _ h) cal_X7_workOut kw_387 kw_386 kw_385 rfl rfl rfl rfl hl.1 rfl (Nat.le_of_ble_eq_true rfl) ⟨Nat.le_of_ble_eq_true rfl, Nat.le_of_ble_eq_true rfl⟩ rfl rfl dX7_comes_10 hw (fun S10 H locs h hw => ?_)
    replace h := h
    refine lv_aload_n hx hb dX7_comes_13 rfl (lv_at hl 0 rfl) ?_
    refine gf_X7_come C0 hw dX7_comes_14 ?_
    refine lv_iload_n hx hb dX7_comes_17 rfl (lv_at hl 1 rfl) ?_
    refine ld_M_come C0 hw h.1 dX7_comes_18 ?_
    have h := h.2
    refine lv_if_eq (tgt := 26) hx hb dX7_comes_19 (by decide) (fun c19 => ?_) (fun c19 => ?_)
    · have h := h.1 c19
      refine lv_iconst (v := 0) hx hb dX7_comes_26 (by decide) ?_
      exact rtI C0 hw h dX7_comes_27
    · have h := h.2 c19
      refine lv_iconst (v := 1) hx hb dX7_comes_22 (by decide) ?_
      refine lv_goto (tgt := 27) hx hb dX7_comes_23 (by decide) ?_
      exact rtI C0 hw h dX7_comes_27
  · have h := h.2 c4
    refine lv_iconst (v := -1) hx hb dX7_comes_7 (by decide) ?_
    exact rtI C0 hw h dX7_comes_8
abbrev rm_X7_held : Room := { frames := 5, cells := 0, slots := 0, locals := 115 }
set_option maxHeartbeats 4000000 in
set_option maxRecDepth 100000 in
theorem m_X7_held (l : Launch) (D : va_G) (ad : Nat → Nat) (cI cJ cZ : ClassId) (S : MS) (x1 : Int32) (x2 : Int32) (x3 : Int32) (post : Int32 → MS → Prop) (h : wp_X7_held S x1 x2 x3 post) : CI (WM ad cI cJ cZ) D cI cJ cZ l yX7_held (.code yX7_held cX7_held 5 (some .int) :: gt) rm_X7_held S [.ref (ad 0), .int x1, .int x2, .int x3] post := by
  refine enI (by decide) (Nat.le_of_ble_eq_true rfl) ?_
  intro p e s m below meth c A ls C0 hw hl
  have C0 : Cx p s m _ meth c cX7_held 5 RX7 (some .int) D cI cJ cZ A := C0
  have hl : lv_has ls 5 [(0, .ref (ad 0)), (1, .int x1), (2, .int x2), (3, .int x3)] := hl
  have hx := C0.1
  have hb := C0.2.1
  unfold wp_X7_held at h
  refine lv_iload_n hx hb dX7_held_0 rfl (lv_at hl 1 rfl) ?_
  refine clSI (As := [.int x1]) (rest := []) C0 (m_X7_isPoint l D ad cI cJ cZ S x1 _ h) cal_X7_isPoint kw_302 kw_301 rfl hl.1 rfl (Nat.le_of_ble_eq_true rfl) ⟨Nat.le_of_ble_eq_true rfl, Nat.le_of_ble_eq_true rfl⟩ rfl rfl dX7_held_1 hw (fun r1 S1 H locs h hw => ?_)
  replace h := h
  refine lv_if_eq (tgt := 31) hx hb dX7_held_4 (by decide) (fun c4 => ?_) (fun c4 => ?_)
  · have h := h.1 c4
    refine lv_iconst (v := -1) hx hb dX7_held_31 (by decide) ?_
    exact rtI C0 hw h dX7_held_32
  · have h := h.2 c4
    refine lv_aload_n hx hb dX7_held_7 rfl (lv_at hl 0 rfl) ?_
    refine lv_iload_n hx hb dX7_held_8 rfl (lv_at hl 2 rfl) ?_
    refine clVI (As := [.int x2]) (rest := []) (ci := 6) (k := 0) C0 (m_X7_isVariable l D ad cI cJ cZ S1 x2 _ h) cal_X7_isVariable kw_297 kw_296 kw_295 rfl rfl rfl rfl hl.1 rfl (Nat.le_of_ble_eq_true rfl) ⟨Nat.le_of_ble_eq_true rfl, Nat.le_of_ble_eq_true rfl⟩ rfl rfl dX7_held_9 hw (fun r9 S9 H locs h hw => ?_)
    replace h := h
    refine lv_if_eq (tgt := 31) hx hb dX7_held_12 (by decide) (fun c12 => ?_) (fun c12 => ?_)
    · have h := h.1 c12
      refine lv_iconst (v := -1) hx hb dX7_held_31 (by decide) ?_
      exact rtI C0 hw h dX7_held_32
    · have h := h.2 c12
      refine lv_iload_n hx hb dX7_held_15 rfl (lv_at hl 3 rfl) ?_
      refine lv_iconst (v := 0) hx hb dX7_held_16 (by decide) ?_
      refine lv_aload_n hx hb dX7_held_17 rfl (lv_at hl 0 rfl) ?_
      refine gf_X7_leaves C0 hw dX7_held_18 ?_
      refine lv_iload_n hx hb dX7_held_21 rfl (lv_at hl 2 rfl) ?_
      refine ld_M_lvs C0 hw h.1 dX7_held_22 ?_
      have h := h.2
      refine lv_iconst (v := 1) hx hb dX7_held_23 (by decide) ?_
      refine lv_isub hx hb dX7_held_24 ?_
      refine clSI (As := [.int x3, .int (0 : Int32), .int ((gM_lvs S9 (x2).toNatClampNeg) - (1 : Int32))]) (rest := []) C0 (m_X7_in l D ad cI cJ cZ S9 x3 (0 : Int32) ((gM_lvs S9 (x2).toNatClampNeg) - (1 : Int32)) _ h) cal_X7_in kw_294 kw_293 rfl hl.1 rfl (Nat.le_of_ble_eq_true rfl) ⟨Nat.le_of_ble_eq_true rfl, Nat.le_of_ble_eq_true rfl⟩ rfl rfl dX7_held_25 hw (fun r25 S25 H locs h hw => ?_)
      replace h := h
      refine lv_if_ne (tgt := 33) hx hb dX7_held_28 (by decide) (fun c28 => ?_) (fun c28 => ?_)
      · have h := h.1 c28
        refine lv_aload_n hx hb dX7_held_33 rfl (lv_at hl 0 rfl) ?_
        refine clVV (As := []) (rest := []) (ci := 6) (k := 0) C0 (m_X7_workOut l D ad cI cJ cZ S25 _ h) cal_X7_workOut kw_387 kw_386 kw_385 rfl rfl rfl rfl hl.1 rfl (Nat.le_of_ble_eq_true rfl) ⟨Nat.le_of_ble_eq_true rfl, Nat.le_of_ble_eq_true rfl⟩ rfl rfl dX7_held_34 hw (fun S34 H locs h hw => ?_)
        replace h := h
        refine lv_aload_n hx hb dX7_held_37 rfl (lv_at hl 0 rfl) ?_
        refine gf_X7_come C0 hw dX7_held_38 ?_
        refine lv_iload_n hx hb dX7_held_41 rfl (lv_at hl 1 rfl) ?_
        refine ld_M_come C0 hw h.1 dX7_held_42 ?_
        have h := h.2
        refine lv_if_ne (tgt := 48) hx hb dX7_held_43 (by decide) (fun c43 => ?_) (fun c43 => ?_)
        · have h := h.1 c43
          refine lv_bipush (v := 64) hx hb dX7_held_48 (by decide) ?_
          refine lv_iload_n hx hb dX7_held_50 rfl (lv_at hl 1 rfl) ?_
          refine lv_imul hx hb dX7_held_51 ?_
          refine lv_iconst (v := 4) hx hb dX7_held_52 (by decide) ?_
          refine lv_iload_n hx hb dX7_held_53 rfl (lv_at hl 2 rfl) ?_
          refine lv_imul hx hb dX7_held_54 ?_
          refine lv_iadd hx hb dX7_held_55 ?_
          refine lv_iload_n hx hb dX7_held_56 rfl (lv_at hl 3 rfl) ?_
          refine lv_iadd hx hb dX7_held_57 ?_
          refine lv_topi (fun x4_1 ex4_1 => ?_)
          have h := h x4_1 ex4_1
          refine lv_istore (lv' := [(4, .int x4_1), (0, .ref (ad 0)), (1, .int x1), (2, .int x2), (3, .int x3)]) hx hb dX7_held_58 hl (by decide) rfl (fun ls hl => ?_)
          refine lv_aload_n hx hb dX7_held_60 rfl (lv_at hl 1 rfl) ?_
          refine gf_X7_lost C0 hw dX7_held_61 ?_
          refine lv_iload hx hb dX7_held_64 (lv_at hl 0 rfl) ?_
          refine ld_M_lost C0 hw h.1 dX7_held_66 ?_
          have h := h.2
          refine lv_if_ne (tgt := 74) hx hb dX7_held_67 (by decide) (fun c67 => ?_) (fun c67 => ?_)
          · have h := h.1 c67
            refine lv_aload_n hx hb dX7_held_74 rfl (lv_at hl 1 rfl) ?_
            refine gf_X7_had C0 hw dX7_held_75 ?_
            refine lv_iload hx hb dX7_held_78 (lv_at hl 0 rfl) ?_
            refine ld_M_had C0 hw h.1 dX7_held_80 ?_
            have h := h.2
            refine lv_if_eq (tgt := 88) hx hb dX7_held_81 (by decide) (fun c81 => ?_) (fun c81 => ?_)
            · have h := h.1 c81
              refine lv_iconst (v := 0) hx hb dX7_held_88 (by decide) ?_
              exact rtI C0 hw h dX7_held_89
            · have h := h.2 c81
              refine lv_iconst (v := 2) hx hb dX7_held_84 (by decide) ?_
              refine lv_goto (tgt := 89) hx hb dX7_held_85 (by decide) ?_
              exact rtI C0 hw h dX7_held_89
          · have h := h.2 c67
            refine lv_iconst (v := 1) hx hb dX7_held_70 (by decide) ?_
            refine lv_goto (tgt := 89) hx hb dX7_held_71 (by decide) ?_
            exact rtI C0 hw h dX7_held_89
        · have h := h.2 c43
          refine lv_iconst (v := -1) hx hb dX7_held_46 (by decide) ?_
          exact rtI C0 hw h dX7_held_47
      · have h := h.2 c28
        refine lv_iconst (v := -1) hx hb dX7_held_31 (by decide) ?_
        exact rtI C0 hw h dX7_held_32
abbrev rm_X7_holds : Room := { frames := 5, cells := 0, slots := 0, locals := 115 }
set_option maxHeartbeats 4000000 in
set_option maxRecDepth 100000 in
theorem m_X7_holds (l : Launch) (D : va_G) (ad : Nat → Nat) (cI cJ cZ : ClassId) (S : MS) (x1 : Int32) (x2 : Int32) (x3 : Int32) (post : Int32 → MS → Prop) (h : wp_X7_holds S x1 x2 x3 post) : CI (WM ad cI cJ cZ) D cI cJ cZ l yX7_holds (.code yX7_holds cX7_holds 4 (some .int) :: gt) rm_X7_holds S [.ref (ad 0), .int x1, .int x2, .int x3] post := by
  refine enI (by decide) (Nat.le_of_ble_eq_true rfl) ?_
  intro p e s m below meth c A ls C0 hw hl
  have C0 : Cx p s m _ meth c cX7_holds 4 RX7 (some .int) D cI cJ cZ A := C0
  have hl : lv_has ls 4 [(0, .ref (ad 0)), (1, .int x1), (2, .int x2), (3, .int x3)] := hl
  have hx := C0.1
  have hb := C0.2.1
  unfold wp_X7_holds at h
  refine lv_iload_n hx hb dX7_holds_0 rfl (lv_at hl 1 rfl) ?_
  refine clSI (As := [.int x1]) (rest := []) C0 (m_X7_isPoint l D ad cI cJ cZ S x1 _ h) cal_X7_isPoint kw_302 kw_301 rfl hl.1 rfl (Nat.le_of_ble_eq_true rfl) ⟨Nat.le_of_ble_eq_true rfl, Nat.le_of_ble_eq_true rfl⟩ rfl rfl dX7_holds_1 hw (fun r1 S1 H locs h hw => ?_)
  replace h := h
  refine lv_if_eq (tgt := 30) hx hb dX7_holds_4 (by decide) (fun c4 => ?_) (fun c4 => ?_)
  · have h := h.1 c4
    refine lv_iconst (v := -1) hx hb dX7_holds_30 (by decide) ?_
    exact rtI C0 hw h dX7_holds_31
  · have h := h.2 c4
    refine lv_aload_n hx hb dX7_holds_7 rfl (lv_at hl 0 rfl) ?_
    refine lv_iload_n hx hb dX7_holds_8 rfl (lv_at hl 2 rfl) ?_
    refine clVI (As := [.int x2]) (rest := []) (ci := 6) (k := 0) C0 (m_X7_isReference l D ad cI cJ cZ S1 x2 _ h) cal_X7_isReference kw_313 kw_312 kw_311 rfl rfl rfl rfl hl.1 rfl (Nat.le_of_ble_eq_true rfl) ⟨Nat.le_of_ble_eq_true rfl, Nat.le_of_ble_eq_true rfl⟩ rfl rfl dX7_holds_9 hw (fun r9 S9 H locs h hw => ?_)
    replace h := h
    refine lv_if_eq (tgt := 30) hx hb dX7_holds_12 (by decide) (fun c12 => ?_) (fun c12 => ?_)
    · have h := h.1 c12
      refine lv_iconst (v := -1) hx hb dX7_holds_30 (by decide) ?_
      exact rtI C0 hw h dX7_holds_31
    · have h := h.2 c12
      refine lv_iload_n hx hb dX7_holds_15 rfl (lv_at hl 3 rfl) ?_
      refine clSI (As := [.int x3]) (rest := []) C0 (m_X7_isPoint l D ad cI cJ cZ S9 x3 _ h) cal_X7_isPoint kw_302 kw_301 rfl hl.1 rfl (Nat.le_of_ble_eq_true rfl) ⟨Nat.le_of_ble_eq_true rfl, Nat.le_of_ble_eq_true rfl⟩ rfl rfl dX7_holds_16 hw (fun r16 S16 H locs h hw => ?_)
      replace h := h
      refine lv_if_eq (tgt := 30) hx hb dX7_holds_19 (by decide) (fun c19 => ?_) (fun c19 => ?_)
      · have h := h.1 c19
        refine lv_iconst (v := -1) hx hb dX7_holds_30 (by decide) ?_
        exact rtI C0 hw h dX7_holds_31
      · have h := h.2 c19
        refine lv_aload_n hx hb dX7_holds_22 rfl (lv_at hl 0 rfl) ?_
        refine lv_iload_n hx hb dX7_holds_23 rfl (lv_at hl 3 rfl) ?_
        refine clVI (As := [.int x3]) (rest := []) (ci := 6) (k := 0) C0 (m_X7_makesLoan l D ad cI cJ cZ S16 x3 _ h) cal_X7_makesLoan kw_369 kw_368 kw_367 rfl rfl rfl rfl hl.1 rfl (Nat.le_of_ble_eq_true rfl) ⟨Nat.le_of_ble_eq_true rfl, Nat.le_of_ble_eq_true rfl⟩ rfl rfl dX7_holds_24 hw (fun r24 S24 H locs h hw => ?_)
        replace h := h
        refine lv_if_ne (tgt := 32) hx hb dX7_holds_27 (by decide) (fun c27 => ?_) (fun c27 => ?_)
        · have h := h.1 c27
          refine lv_aload_n hx hb dX7_holds_32 rfl (lv_at hl 0 rfl) ?_
          refine clVV (As := []) (rest := []) (ci := 6) (k := 0) C0 (m_X7_workOut l D ad cI cJ cZ S24 _ h) cal_X7_workOut kw_387 kw_386 kw_385 rfl rfl rfl rfl hl.1 rfl (Nat.le_of_ble_eq_true rfl) ⟨Nat.le_of_ble_eq_true rfl, Nat.le_of_ble_eq_true rfl⟩ rfl rfl dX7_holds_33 hw (fun S33 H locs h hw => ?_)
          replace h := h
          refine lv_aload_n hx hb dX7_holds_36 rfl (lv_at hl 0 rfl) ?_
          refine gf_X7_come C0 hw dX7_holds_37 ?_
          refine lv_iload_n hx hb dX7_holds_40 rfl (lv_at hl 1 rfl) ?_
          refine ld_M_come C0 hw h.1 dX7_holds_41 ?_
          have h := h.2
          refine lv_if_eq (tgt := 69) hx hb dX7_holds_42 (by decide) (fun c42 => ?_) (fun c42 => ?_)
          · have h := h.1 c42
            refine lv_iconst (v := 0) hx hb dX7_holds_69 (by decide) ?_
            exact rtI C0 hw h dX7_holds_70
          · have h := h.2 c42
            refine lv_aload_n hx hb dX7_holds_45 rfl (lv_at hl 0 rfl) ?_
            refine gf_X7_holds C0 hw dX7_holds_46 ?_
            refine lv_aload_n hx hb dX7_holds_49 rfl (lv_at hl 0 rfl) ?_
            refine lv_aload_n hx hb dX7_holds_50 rfl (lv_at hl 0 rfl) ?_
            refine gf_X7_rowOf C0 hw dX7_holds_51 ?_
            refine lv_iload_n hx hb dX7_holds_54 rfl (lv_at hl 3 rfl) ?_
            refine ld_M_rowOf C0 hw h.1 dX7_holds_55 ?_
            have h := h.2
            refine lv_iload_n hx hb dX7_holds_56 rfl (lv_at hl 1 rfl) ?_
            refine lv_iload_n hx hb dX7_holds_57 rfl (lv_at hl 2 rfl) ?_
            refine clVI (As := [.int (gM_rowOf S33 (x3).toNatClampNeg), .int x1, .int x2]) (rest := [.ref (ad 12)]) (ci := 6) (k := 0) C0 (m_X7_cell l D ad cI cJ cZ S33 (gM_rowOf S33 (x3).toNatClampNeg) x1 x2 _ h) cal_X7_cell kw_352 kw_351 kw_350 rfl rfl rfl rfl hl.1 rfl (Nat.le_of_ble_eq_true rfl) ⟨Nat.le_of_ble_eq_true rfl, Nat.le_of_ble_eq_true rfl⟩ rfl rfl dX7_holds_58 hw (fun r58 S58 H locs h hw => ?_)
            replace h := h
            refine ld_M_holds C0 hw h.1 dX7_holds_61 ?_
            have h := h.2
            refine lv_if_eq (tgt := 69) hx hb dX7_holds_62 (by decide) (fun c62 => ?_) (fun c62 => ?_)
            · have h := h.1 c62
              refine lv_iconst (v := 0) hx hb dX7_holds_69 (by decide) ?_
              exact rtI C0 hw h dX7_holds_70
            · have h := h.2 c62
              refine lv_iconst (v := 1) hx hb dX7_holds_65 (by decide) ?_
              refine lv_goto (tgt := 70) hx hb dX7_holds_66 (by decide) ?_
              exact rtI C0 hw h dX7_holds_70
        · have h := h.2 c27
          refine lv_iconst (v := -1) hx hb dX7_holds_30 (by decide) ?_
          exact rtI C0 hw h dX7_holds_31
abbrev rm_X7_used : Room := { frames := 5, cells := 0, slots := 0, locals := 115 }
set_option maxHeartbeats 4000000 in
set_option maxRecDepth 100000 in
theorem m_X7_used (l : Launch) (D : va_G) (ad : Nat → Nat) (cI cJ cZ : ClassId) (S : MS) (x1 : Int32) (x2 : Int32) (post : Int32 → MS → Prop) (h : wp_X7_used S x1 x2 post) : CI (WM ad cI cJ cZ) D cI cJ cZ l yX7_used (.code yX7_used cX7_used 3 (some .int) :: gt) rm_X7_used S [.ref (ad 0), .int x1, .int x2] post := by
  refine enI (by decide) (Nat.le_of_ble_eq_true rfl) ?_
  intro p e s m below meth c A ls C0 hw hl
  have C0 : Cx p s m _ meth c cX7_used 3 RX7 (some .int) D cI cJ cZ A := C0
  have hl : lv_has ls 3 [(0, .ref (ad 0)), (1, .int x1), (2, .int x2)] := hl
  have hx := C0.1
  have hb := C0.2.1
  unfold wp_X7_used at h
  refine lv_iload_n hx hb dX7_used_0 rfl (lv_at hl 1 rfl) ?_
  refine clSI (As := [.int x1]) (rest := []) C0 (m_X7_isPoint l D ad cI cJ cZ S x1 _ h) cal_X7_isPoint kw_302 kw_301 rfl hl.1 rfl (Nat.le_of_ble_eq_true rfl) ⟨Nat.le_of_ble_eq_true rfl, Nat.le_of_ble_eq_true rfl⟩ rfl rfl dX7_used_1 hw (fun r1 S1 H locs h hw => ?_)
  replace h := h
  refine lv_if_eq (tgt := 15) hx hb dX7_used_4 (by decide) (fun c4 => ?_) (fun c4 => ?_)
  · have h := h.1 c4
    refine lv_iconst (v := -1) hx hb dX7_used_15 (by decide) ?_
    exact rtI C0 hw h dX7_used_16
  · have h := h.2 c4
    refine lv_aload_n hx hb dX7_used_7 rfl (lv_at hl 0 rfl) ?_
    refine lv_iload_n hx hb dX7_used_8 rfl (lv_at hl 2 rfl) ?_
    refine clVI (As := [.int x2]) (rest := []) (ci := 6) (k := 0) C0 (m_X7_isReference l D ad cI cJ cZ S1 x2 _ h) cal_X7_isReference kw_313 kw_312 kw_311 rfl rfl rfl rfl hl.1 rfl (Nat.le_of_ble_eq_true rfl) ⟨Nat.le_of_ble_eq_true rfl, Nat.le_of_ble_eq_true rfl⟩ rfl rfl dX7_used_9 hw (fun r9 S9 H locs h hw => ?_)
    replace h := h
    refine lv_if_ne (tgt := 17) hx hb dX7_used_12 (by decide) (fun c12 => ?_) (fun c12 => ?_)
    · have h := h.1 c12
      refine lv_aload_n hx hb dX7_used_17 rfl (lv_at hl 0 rfl) ?_
      refine clVV (As := []) (rest := []) (ci := 6) (k := 0) C0 (m_X7_workOut l D ad cI cJ cZ S9 _ h) cal_X7_workOut kw_387 kw_386 kw_385 rfl rfl rfl rfl hl.1 rfl (Nat.le_of_ble_eq_true rfl) ⟨Nat.le_of_ble_eq_true rfl, Nat.le_of_ble_eq_true rfl⟩ rfl rfl dX7_used_18 hw (fun S18 H locs h hw => ?_)
      replace h := h
      refine lv_aload_n hx hb dX7_used_21 rfl (lv_at hl 0 rfl) ?_
      refine gf_X7_come C0 hw dX7_used_22 ?_
      refine lv_iload_n hx hb dX7_used_25 rfl (lv_at hl 1 rfl) ?_
      refine ld_M_come C0 hw h.1 dX7_used_26 ?_
      have h := h.2
      refine lv_if_eq (tgt := 48) hx hb dX7_used_27 (by decide) (fun c27 => ?_) (fun c27 => ?_)
      · have h := h.1 c27
        refine lv_iconst (v := 0) hx hb dX7_used_48 (by decide) ?_
        exact rtI C0 hw h dX7_used_49
      · have h := h.2 c27
        refine lv_aload_n hx hb dX7_used_30 rfl (lv_at hl 0 rfl) ?_
        refine gf_X7_used C0 hw dX7_used_31 ?_
        refine lv_bipush (v := 16) hx hb dX7_used_34 (by decide) ?_
        refine lv_iload_n hx hb dX7_used_36 rfl (lv_at hl 1 rfl) ?_
        refine lv_imul hx hb dX7_used_37 ?_
        refine lv_iload_n hx hb dX7_used_38 rfl (lv_at hl 2 rfl) ?_
        refine lv_iadd hx hb dX7_used_39 ?_
        refine ld_M_used C0 hw h.1 dX7_used_40 ?_
        have h := h.2
        refine lv_if_eq (tgt := 48) hx hb dX7_used_41 (by decide) (fun c41 => ?_) (fun c41 => ?_)
        · have h := h.1 c41
          refine lv_iconst (v := 0) hx hb dX7_used_48 (by decide) ?_
          exact rtI C0 hw h dX7_used_49
        · have h := h.2 c41
          refine lv_iconst (v := 1) hx hb dX7_used_44 (by decide) ?_
          refine lv_goto (tgt := 49) hx hb dX7_used_45 (by decide) ?_
          exact rtI C0 hw h dX7_used_49
    · have h := h.2 c12
      refine lv_iconst (v := -1) hx hb dX7_used_15 (by decide) ?_
      exact rtI C0 hw h dX7_used_16
abbrev rm_X7_force : Room := { frames := 5, cells := 0, slots := 0, locals := 115 }
set_option maxHeartbeats 4000000 in
set_option maxRecDepth 100000 in
theorem m_X7_force (l : Launch) (D : va_G) (ad : Nat → Nat) (cI cJ cZ : ClassId) (S : MS) (x1 : Int32) (x2 : Int32) (post : Int32 → MS → Prop) (h : wp_X7_force S x1 x2 post) : CI (WM ad cI cJ cZ) D cI cJ cZ l yX7_force (.code yX7_force cX7_force 3 (some .int) :: gt) rm_X7_force S [.ref (ad 0), .int x1, .int x2] post := by
  refine enI (by decide) (Nat.le_of_ble_eq_true rfl) ?_
  intro p e s m below meth c A ls C0 hw hl
  have C0 : Cx p s m _ meth c cX7_force 3 RX7 (some .int) D cI cJ cZ A := C0
  have hl : lv_has ls 3 [(0, .ref (ad 0)), (1, .int x1), (2, .int x2)] := hl
  have hx := C0.1
  have hb := C0.2.1
  unfold wp_X7_force at h
  refine lv_iload_n hx hb dX7_force_0 rfl (lv_at hl 2 rfl) ?_
  refine clSI (As := [.int x2]) (rest := []) C0 (m_X7_isPoint l D ad cI cJ cZ S x2 _ h) cal_X7_isPoint kw_302 kw_301 rfl hl.1 rfl (Nat.le_of_ble_eq_true rfl) ⟨Nat.le_of_ble_eq_true rfl, Nat.le_of_ble_eq_true rfl⟩ rfl rfl dX7_force_1 hw (fun r1 S1 H locs h hw => ?_)
  replace h := h
  refine lv_if_eq (tgt := 22) hx hb dX7_force_4 (by decide) (fun c4 => ?_) (fun c4 => ?_)
  · have h := h.1 c4
    refine lv_iconst (v := -1) hx hb dX7_force_22 (by decide) ?_
    exact rtI C0 hw h dX7_force_23
  · have h := h.2 c4
    refine lv_iload_n hx hb dX7_force_7 rfl (lv_at hl 1 rfl) ?_
    refine clSI (As := [.int x1]) (rest := []) C0 (m_X7_isPoint l D ad cI cJ cZ S1 x1 _ h) cal_X7_isPoint kw_302 kw_301 rfl hl.1 rfl (Nat.le_of_ble_eq_true rfl) ⟨Nat.le_of_ble_eq_true rfl, Nat.le_of_ble_eq_true rfl⟩ rfl rfl dX7_force_8 hw (fun r8 S8 H locs h hw => ?_)
    replace h := h
    refine lv_if_eq (tgt := 22) hx hb dX7_force_11 (by decide) (fun c11 => ?_) (fun c11 => ?_)
    · have h := h.1 c11
      refine lv_iconst (v := -1) hx hb dX7_force_22 (by decide) ?_
      exact rtI C0 hw h dX7_force_23
    · have h := h.2 c11
      refine lv_aload_n hx hb dX7_force_14 rfl (lv_at hl 0 rfl) ?_
      refine lv_iload_n hx hb dX7_force_15 rfl (lv_at hl 1 rfl) ?_
      refine clVI (As := [.int x1]) (rest := []) (ci := 6) (k := 0) C0 (m_X7_makesLoan l D ad cI cJ cZ S8 x1 _ h) cal_X7_makesLoan kw_369 kw_368 kw_367 rfl rfl rfl rfl hl.1 rfl (Nat.le_of_ble_eq_true rfl) ⟨Nat.le_of_ble_eq_true rfl, Nat.le_of_ble_eq_true rfl⟩ rfl rfl dX7_force_16 hw (fun r16 S16 H locs h hw => ?_)
      replace h := h
      refine lv_if_ne (tgt := 24) hx hb dX7_force_19 (by decide) (fun c19 => ?_) (fun c19 => ?_)
      · have h := h.1 c19
        refine lv_aload_n hx hb dX7_force_24 rfl (lv_at hl 0 rfl) ?_
        refine clVV (As := []) (rest := []) (ci := 6) (k := 0) C0 (m_X7_workOut l D ad cI cJ cZ S16 _ h) cal_X7_workOut kw_387 kw_386 kw_385 rfl rfl rfl rfl hl.1 rfl (Nat.le_of_ble_eq_true rfl) ⟨Nat.le_of_ble_eq_true rfl, Nat.le_of_ble_eq_true rfl⟩ rfl rfl dX7_force_25 hw (fun S25 H locs h hw => ?_)
        replace h := h
        refine lv_aload_n hx hb dX7_force_28 rfl (lv_at hl 0 rfl) ?_
        refine gf_X7_come C0 hw dX7_force_29 ?_
        refine lv_iload_n hx hb dX7_force_32 rfl (lv_at hl 2 rfl) ?_
        refine ld_M_come C0 hw h.1 dX7_force_33 ?_
        have h := h.2
        refine lv_if_eq (tgt := 56) hx hb dX7_force_34 (by decide) (fun c34 => ?_) (fun c34 => ?_)
        · have h := h.1 c34
          refine lv_iconst (v := 0) hx hb dX7_force_56 (by decide) ?_
          exact rtI C0 hw h dX7_force_57
        · have h := h.2 c34
          refine lv_aload_n hx hb dX7_force_37 rfl (lv_at hl 0 rfl) ?_
          refine gf_X7_force C0 hw dX7_force_38 ?_
          refine lv_sipush (v := 150) hx hb dX7_force_41 (by decide) ?_
          refine lv_iload_n hx hb dX7_force_44 rfl (lv_at hl 1 rfl) ?_
          refine lv_imul hx hb dX7_force_45 ?_
          refine lv_iload_n hx hb dX7_force_46 rfl (lv_at hl 2 rfl) ?_
          refine lv_iadd hx hb dX7_force_47 ?_
          refine ld_M_force C0 hw h.1 dX7_force_48 ?_
          have h := h.2
          refine lv_if_eq (tgt := 56) hx hb dX7_force_49 (by decide) (fun c49 => ?_) (fun c49 => ?_)
          · have h := h.1 c49
            refine lv_iconst (v := 0) hx hb dX7_force_56 (by decide) ?_
            exact rtI C0 hw h dX7_force_57
          · have h := h.2 c49
            refine lv_iconst (v := 1) hx hb dX7_force_52 (by decide) ?_
            refine lv_goto (tgt := 57) hx hb dX7_force_53 (by decide) ?_
            exact rtI C0 hw h dX7_force_57
      · have h := h.2 c19
        refine lv_iconst (v := -1) hx hb dX7_force_22 (by decide) ?_
        exact rtI C0 hw h dX7_force_23
abbrev rm_X7_count : Room := { frames := 5, cells := 0, slots := 0, locals := 115 }
set_option maxHeartbeats 4000000 in
set_option maxRecDepth 100000 in
theorem mb_X7_count_126 {p : Program} {l : Launch} {e : Env} {s : State} {m : MethodId} {args : Array Value} {below : List Frame} {meth : Method} {c : Code} {D : va_G} {ad : Nat → Nat} {cI cJ cZ : ClassId} {A : Nat → Prop} {post : Int32 → MS → Prop} (C0 : Cx p s m args meth c cX7_count 7 RX7 (some .int) D cI cJ cZ A) (K73 : Int32 → Int32 → Int32 → Int32 → Int32 → Int32 → MS → Prop) (hK73 : ∀ (x1 : Int32) (x2 : Int32) (x3 : Int32) (x4 : Int32) (x5 : Int32) (x6 : Int32) (S : MS) (H : Heap) (locs : List Loc) (ls : Array Slot), K73 x1 x2 x3 x4 x5 x6 S → Wd (WM ad cI cJ cZ) D A s.heap H locs S → lv_has ls 7 [(0, .ref (ad 0)), (1, .int x1), (2, .int x2), (3, .int x3), (4, .int x4), (5, .int x5), (6, .int x6)] → W p l e rm_X7_count s m args below meth c H locs 0 0 (QI (WM ad cI cJ cZ) D A s args below post) (F0 m 73 ls [])) :
 ∀ (x1 : Int32) (x2 : Int32) (x3 : Int32) (x5 : Int32) (x6 : Int32) (k0 : Int32) (k1 : Int32) (S : MS) (H : Heap) (locs : List Loc) (ls : Array Slot), wp_X7_count_126 K73 post x1 x2 x3 x5 x6 k0 k1 S → Wd (WM ad cI cJ cZ) D A s.heap H locs S → lv_has ls 7 [(0, .ref (ad 0)), (1, .int x1), (2, .int x2), (3, .int x3), (5, .int x5), (6, .int x6)] → W p l e rm_X7_count s m args below meth c H locs 0 0 (QI (WM ad cI cJ cZ) D A s args below post) (F0 m 126 ls [.int k0, .int k1]) := by
  have hx := C0.1
  have hb := C0.2.1
  intro x1 x2 x3 x5 x6 k0 k1 S H locs ls h hw hl
  unfold wp_X7_count_126 at h
  refine lv_iadd hx hb dX7_count_126 ?_
  refine lv_topi (fun x4_1 ex4_1 => ?_)
  have h := h x4_1 ex4_1
  refine lv_istore (lv' := [(4, .int x4_1), (0, .ref (ad 0)), (1, .int x1), (2, .int x2), (3, .int x3), (5, .int x5), (6, .int x6)]) hx hb dX7_count_127 hl (by decide) rfl (fun ls hl => ?_)
  obtain ⟨x6_2, ex6_2⟩ : ∃ y : Int32, y = x6 + (1 : Int32) := ⟨_, rfl⟩
  refine lv_iinc (v := x6_2) (lv' := [(6, .int x6_2), (4, .int x4_1), (0, .ref (ad 0)), (1, .int x1), (2, .int x2), (3, .int x3), (5, .int x5)]) hx hb dX7_count_129 hl (k := 6) rfl (by rw [ex6_2]; rfl) (by decide) rfl (fun ls hl => ?_)
  have h := h x6_2 ex6_2
  refine lv_goto (tgt := 73) hx hb dX7_count_132 (by decide) ?_
  replace hl := lv_sub hl [2, 3, 4, 5, 1, 6, 0] rfl
  exact hK73 x1 x2 x3 x4_1 x5 x6_2 S _ _ _ h hw hl
set_option maxHeartbeats 4000000 in
set_option maxRecDepth 100000 in
theorem mb_X7_count_125 {p : Program} {l : Launch} {e : Env} {s : State} {m : MethodId} {args : Array Value} {below : List Frame} {meth : Method} {c : Code} {D : va_G} {ad : Nat → Nat} {cI cJ cZ : ClassId} {A : Nat → Prop} {post : Int32 → MS → Prop} (C0 : Cx p s m args meth c cX7_count 7 RX7 (some .int) D cI cJ cZ A) (K126 : Int32 → Int32 → Int32 → Int32 → Int32 → Int32 → Int32 → MS → Prop) (hK126 : ∀ (x1 : Int32) (x2 : Int32) (x3 : Int32) (x5 : Int32) (x6 : Int32) (k0 : Int32) (k1 : Int32) (S : MS) (H : Heap) (locs : List Loc) (ls : Array Slot), K126 x1 x2 x3 x5 x6 k0 k1 S → Wd (WM ad cI cJ cZ) D A s.heap H locs S → lv_has ls 7 [(0, .ref (ad 0)), (1, .int x1), (2, .int x2), (3, .int x3), (5, .int x5), (6, .int x6)] → W p l e rm_X7_count s m args below meth c H locs 0 0 (QI (WM ad cI cJ cZ) D A s args below post) (F0 m 126 ls [.int k0, .int k1])) :
 ∀ (x1 : Int32) (x2 : Int32) (x3 : Int32) (x5 : Int32) (x6 : Int32) (k0 : Int32) (S : MS) (H : Heap) (locs : List Loc) (ls : Array Slot), wp_X7_count_125 K126 post x1 x2 x3 x5 x6 k0 S → Wd (WM ad cI cJ cZ) D A s.heap H locs S → lv_has ls 7 [(0, .ref (ad 0)), (1, .int x1), (2, .int x2), (3, .int x3), (5, .int x5), (6, .int x6)] → W p l e rm_X7_count s m args below meth c H locs 0 0 (QI (WM ad cI cJ cZ) D A s args below post) (F0 m 125 ls [.int k0]) := by
  have hx := C0.1
  have hb := C0.2.1
  intro x1 x2 x3 x5 x6 k0 S H locs ls h hw hl
  unfold wp_X7_count_125 at h
  refine lv_iconst (v := 0) hx hb dX7_count_125 (by decide) ?_
  replace hl := lv_sub hl [0, 1, 2, 3, 4, 5] rfl
  exact hK126 x1 x2 x3 x5 x6 (0 : Int32) k0 S _ _ _ h hw hl
set_option maxHeartbeats 4000000 in
set_option maxRecDepth 100000 in
theorem mb_X7_count_135 {p : Program} {l : Launch} {e : Env} {s : State} {m : MethodId} {args : Array Value} {below : List Frame} {meth : Method} {c : Code} {D : va_G} {ad : Nat → Nat} {cI cJ cZ : ClassId} {A : Nat → Prop} {post : Int32 → MS → Prop} (C0 : Cx p s m args meth c cX7_count 7 RX7 (some .int) D cI cJ cZ A) (K25 : Int32 → Int32 → Int32 → Int32 → Int32 → MS → Prop) (hK25 : ∀ (x1 : Int32) (x2 : Int32) (x3 : Int32) (x4 : Int32) (x5 : Int32) (S : MS) (H : Heap) (locs : List Loc) (ls : Array Slot), K25 x1 x2 x3 x4 x5 S → Wd (WM ad cI cJ cZ) D A s.heap H locs S → lv_has ls 7 [(0, .ref (ad 0)), (1, .int x1), (2, .int x2), (3, .int x3), (4, .int x4), (5, .int x5)] → W p l e rm_X7_count s m args below meth c H locs 0 0 (QI (WM ad cI cJ cZ) D A s args below post) (F0 m 25 ls [])) :
 ∀ (x1 : Int32) (x2 : Int32) (x3 : Int32) (x4 : Int32) (x5 : Int32) (S : MS) (H : Heap) (locs : List Loc) (ls : Array Slot), wp_X7_count_135 K25 post x1 x2 x3 x4 x5 S → Wd (WM ad cI cJ cZ) D A s.heap H locs S → lv_has ls 7 [(0, .ref (ad 0)), (1, .int x1), (2, .int x2), (3, .int x3), (4, .int x4), (5, .int x5)] → W p l e rm_X7_count s m args below meth c H locs 0 0 (QI (WM ad cI cJ cZ) D A s args below post) (F0 m 135 ls []) := by
  have hx := C0.1
  have hb := C0.2.1
  intro x1 x2 x3 x4 x5 S H locs ls h hw hl
  unfold wp_X7_count_135 at h
  obtain ⟨x5_1, ex5_1⟩ : ∃ y : Int32, y = x5 + (1 : Int32) := ⟨_, rfl⟩
  refine lv_iinc (v := x5_1) (lv' := [(5, .int x5_1), (0, .ref (ad 0)), (1, .int x1), (2, .int x2), (3, .int x3), (4, .int x4)]) hx hb dX7_count_135 hl (k := 5) rfl (by rw [ex5_1]; rfl) (by decide) rfl (fun ls hl => ?_)
  have h := h x5_1 ex5_1
  refine lv_goto (tgt := 25) hx hb dX7_count_138 (by decide) ?_
  replace hl := lv_sub hl [1, 2, 3, 4, 5, 0] rfl
  exact hK25 x1 x2 x3 x4 x5_1 S _ _ _ h hw hl
set_option maxHeartbeats 4000000 in
set_option maxRecDepth 100000 in
theorem mb_X7_count_73 {p : Program} {l : Launch} {e : Env} {s : State} {m : MethodId} {args : Array Value} {below : List Frame} {meth : Method} {c : Code} {D : va_G} {ad : Nat → Nat} {cI cJ cZ : ClassId} {A : Nat → Prop} {post : Int32 → MS → Prop} (C0 : Cx p s m args meth c cX7_count 7 RX7 (some .int) D cI cJ cZ A) (K25 : Int32 → Int32 → Int32 → Int32 → Int32 → MS → Prop) (hK25 : ∀ (x1 : Int32) (x2 : Int32) (x3 : Int32) (x4 : Int32) (x5 : Int32) (S : MS) (H : Heap) (locs : List Loc) (ls : Array Slot), K25 x1 x2 x3 x4 x5 S → Wd (WM ad cI cJ cZ) D A s.heap H locs S → lv_has ls 7 [(0, .ref (ad 0)), (1, .int x1), (2, .int x2), (3, .int x3), (4, .int x4), (5, .int x5)] → W p l e rm_X7_count s m args below meth c H locs 0 0 (QI (WM ad cI cJ cZ) D A s args below post) (F0 m 25 ls [])) :
 ∀ (n : Nat) (x1 : Int32) (x2 : Int32) (x3 : Int32) (x4 : Int32) (x5 : Int32) (x6 : Int32) (S : MS) (H : Heap) (locs : List Loc) (ls : Array Slot), wp_X7_count_73 K25 post n x1 x2 x3 x4 x5 x6 S → Wd (WM ad cI cJ cZ) D A s.heap H locs S → lv_has ls 7 [(0, .ref (ad 0)), (1, .int x1), (2, .int x2), (3, .int x3), (4, .int x4), (5, .int x5), (6, .int x6)] → W p l e rm_X7_count s m args below meth c H locs 0 0 (QI (WM ad cI cJ cZ) D A s args below post) (F0 m 73 ls []) := by
  have hx := C0.1
  have hb := C0.2.1
  intro n
  induction n with
  | zero => intro x1 x2 x3 x4 x5 x6 S H locs ls h; exact h.elim
  | succ n ih =>
    intro x1 x2 x3 x4 x5 x6 S H locs ls h hw hl
    replace h : ws_X7_count_73 (wp_X7_count_73 K25 post n) K25 post x1 x2 x3 x4 x5 x6 S := h
    unfold ws_X7_count_73 at h
    refine lv_iload hx hb dX7_count_73 (lv_at hl 6 rfl) ?_
    refine lv_sipush (v := 150) hx hb dX7_count_75 (by decide) ?_
    refine lv_icmp_ge (tgt := 135) hx hb dX7_count_78 (by decide) (fun c78 => ?_) (fun c78 => ?_)
    · have h := h.1 c78
      replace hl := lv_sub hl [0, 1, 2, 3, 4, 5] rfl
      exact mb_X7_count_135 C0 _ hK25 x1 x2 x3 x4 x5 S _ _ ls h hw hl
    · have h := h.2 c78
      refine lv_aload_n hx hb dX7_count_81 rfl (lv_at hl 0 rfl) ?_
      refine gf_X7_come C0 hw dX7_count_82 ?_
      refine lv_iload hx hb dX7_count_85 (lv_at hl 5 rfl) ?_
      refine ld_M_come C0 hw h.1 dX7_count_87 ?_
      have h := h.2
      refine lv_if_eq (tgt := 135) hx hb dX7_count_88 (by decide) (fun c88 => ?_) (fun c88 => ?_)
      · have h := h.1 c88
        replace hl := lv_sub hl [0, 1, 2, 3, 4, 5] rfl
        exact mb_X7_count_135 C0 _ hK25 x1 x2 x3 x4 x5 S _ _ ls h hw hl
      · have h := h.2 c88
        refine lv_iload hx hb dX7_count_91 (lv_at hl 4 rfl) ?_
        refine lv_aload_n hx hb dX7_count_93 rfl (lv_at hl 0 rfl) ?_
        refine gf_X7_rowOf C0 hw dX7_count_94 ?_
        refine lv_iload hx hb dX7_count_97 (lv_at hl 6 rfl) ?_
        refine ld_M_rowOf C0 hw h.1 dX7_count_99 ?_
        have h := h.2
        refine lv_iconst (v := -1) hx hb dX7_count_100 (by decide) ?_
        refine lv_icmp_eq (tgt := 125) hx hb dX7_count_101 (by decide) (fun c101 => ?_) (fun c101 => ?_)
        · have h := h.1 c101
          replace hl := lv_sub hl [0, 1, 2, 3, 5, 6] rfl
          exact mb_X7_count_125 C0 _ (fun x1 x2 x3 x5 x6 k0 k1 S H locs ls h hw hl => mb_X7_count_126 C0 _ ih x1 x2 x3 x5 x6 k0 k1 S _ _ ls h hw hl) x1 x2 x3 x5 x6 x4 S _ _ ls h hw hl
        · have h := h.2 c101
          refine lv_aload_n hx hb dX7_count_104 rfl (lv_at hl 0 rfl) ?_
          refine gf_X7_force C0 hw dX7_count_105 ?_
          refine lv_sipush (v := 150) hx hb dX7_count_108 (by decide) ?_
          refine lv_iload hx hb dX7_count_111 (lv_at hl 6 rfl) ?_
          refine lv_imul hx hb dX7_count_113 ?_
          refine lv_iload hx hb dX7_count_114 (lv_at hl 5 rfl) ?_
          refine lv_iadd hx hb dX7_count_116 ?_
          refine ld_M_force C0 hw h.1 dX7_count_117 ?_
          have h := h.2
          refine lv_if_eq (tgt := 125) hx hb dX7_count_118 (by decide) (fun c118 => ?_) (fun c118 => ?_)
          · have h := h.1 c118
            replace hl := lv_sub hl [0, 1, 2, 3, 5, 6] rfl
            exact mb_X7_count_125 C0 _ (fun x1 x2 x3 x5 x6 k0 k1 S H locs ls h hw hl => mb_X7_count_126 C0 _ ih x1 x2 x3 x5 x6 k0 k1 S _ _ ls h hw hl) x1 x2 x3 x5 x6 x4 S _ _ ls h hw hl
          · have h := h.2 c118
            refine lv_iconst (v := 1) hx hb dX7_count_121 (by decide) ?_
            refine lv_goto (tgt := 126) hx hb dX7_count_122 (by decide) ?_
            replace hl := lv_sub hl [0, 1, 2, 3, 5, 6] rfl
            exact mb_X7_count_126 C0 _ ih x1 x2 x3 x5 x6 (1 : Int32) x4 S _ _ ls h hw hl
set_option maxHeartbeats 4000000 in
set_option maxRecDepth 100000 in
theorem mb_X7_count_68 {p : Program} {l : Launch} {e : Env} {s : State} {m : MethodId} {args : Array Value} {below : List Frame} {meth : Method} {c : Code} {D : va_G} {ad : Nat → Nat} {cI cJ cZ : ClassId} {A : Nat → Prop} {post : Int32 → MS → Prop} (C0 : Cx p s m args meth c cX7_count 7 RX7 (some .int) D cI cJ cZ A) (K25 : Int32 → Int32 → Int32 → Int32 → Int32 → MS → Prop) (hK25 : ∀ (x1 : Int32) (x2 : Int32) (x3 : Int32) (x4 : Int32) (x5 : Int32) (S : MS) (H : Heap) (locs : List Loc) (ls : Array Slot), K25 x1 x2 x3 x4 x5 S → Wd (WM ad cI cJ cZ) D A s.heap H locs S → lv_has ls 7 [(0, .ref (ad 0)), (1, .int x1), (2, .int x2), (3, .int x3), (4, .int x4), (5, .int x5)] → W p l e rm_X7_count s m args below meth c H locs 0 0 (QI (WM ad cI cJ cZ) D A s args below post) (F0 m 25 ls [])) :
 ∀ (x1 : Int32) (x3 : Int32) (x4 : Int32) (x5 : Int32) (k0 : Int32) (k1 : Int32) (S : MS) (H : Heap) (locs : List Loc) (ls : Array Slot), wp_X7_count_68 K25 post x1 x3 x4 x5 k0 k1 S → Wd (WM ad cI cJ cZ) D A s.heap H locs S → lv_has ls 7 [(0, .ref (ad 0)), (1, .int x1), (3, .int x3), (4, .int x4), (5, .int x5)] → W p l e rm_X7_count s m args below meth c H locs 0 0 (QI (WM ad cI cJ cZ) D A s args below post) (F0 m 68 ls [.int k0, .int k1]) := by
  have hx := C0.1
  have hb := C0.2.1
  intro x1 x3 x4 x5 k0 k1 S H locs ls h hw hl
  unfold wp_X7_count_68 at h
  refine lv_iadd hx hb dX7_count_68 ?_
  refine lv_topi (fun x2_1 ex2_1 => ?_)
  have h := h x2_1 ex2_1
  refine lv_istore_n (lv' := [(2, .int x2_1), (0, .ref (ad 0)), (1, .int x1), (3, .int x3), (4, .int x4), (5, .int x5)]) hx hb dX7_count_69 rfl hl (by decide) rfl (fun ls hl => ?_)
  refine lv_iconst (v := 0) hx hb dX7_count_70 (by decide) ?_
  refine lv_istore (lv' := [(6, .int (0 : Int32)), (2, .int x2_1), (0, .ref (ad 0)), (1, .int x1), (3, .int x3), (4, .int x4), (5, .int x5)]) hx hb dX7_count_71 hl (by decide) rfl (fun ls hl => ?_)
  replace hl := lv_sub hl [2, 3, 1, 4, 5, 6, 0] rfl
  obtain ⟨n, h⟩ := h
  exact mb_X7_count_73 C0 _ hK25 n x1 x2_1 x3 x4 x5 (0 : Int32) S _ _ ls h hw hl
set_option maxHeartbeats 4000000 in
set_option maxRecDepth 100000 in
theorem mb_X7_count_49 {p : Program} {l : Launch} {e : Env} {s : State} {m : MethodId} {args : Array Value} {below : List Frame} {meth : Method} {c : Code} {D : va_G} {ad : Nat → Nat} {cI cJ cZ : ClassId} {A : Nat → Prop} {post : Int32 → MS → Prop} (C0 : Cx p s m args meth c cX7_count 7 RX7 (some .int) D cI cJ cZ A) (K25 : Int32 → Int32 → Int32 → Int32 → Int32 → MS → Prop) (hK25 : ∀ (x1 : Int32) (x2 : Int32) (x3 : Int32) (x4 : Int32) (x5 : Int32) (S : MS) (H : Heap) (locs : List Loc) (ls : Array Slot), K25 x1 x2 x3 x4 x5 S → Wd (WM ad cI cJ cZ) D A s.heap H locs S → lv_has ls 7 [(0, .ref (ad 0)), (1, .int x1), (2, .int x2), (3, .int x3), (4, .int x4), (5, .int x5)] → W p l e rm_X7_count s m args below meth c H locs 0 0 (QI (WM ad cI cJ cZ) D A s args below post) (F0 m 25 ls [])) :
 ∀ (x1 : Int32) (x2 : Int32) (x4 : Int32) (x5 : Int32) (k0 : Int32) (k1 : Int32) (S : MS) (H : Heap) (locs : List Loc) (ls : Array Slot), wp_X7_count_49 K25 post x1 x2 x4 x5 k0 k1 S → Wd (WM ad cI cJ cZ) D A s.heap H locs S → lv_has ls 7 [(0, .ref (ad 0)), (1, .int x1), (2, .int x2), (4, .int x4), (5, .int x5)] → W p l e rm_X7_count s m args below meth c H locs 0 0 (QI (WM ad cI cJ cZ) D A s args below post) (F0 m 49 ls [.int k0, .int k1]) := by
  have hx := C0.1
  have hb := C0.2.1
  intro x1 x2 x4 x5 k0 k1 S H locs ls h hw hl
  unfold wp_X7_count_49 at h
  refine lv_iadd hx hb dX7_count_49 ?_
  refine lv_topi (fun x3_1 ex3_1 => ?_)
  have h := h x3_1 ex3_1
  refine lv_istore_n (lv' := [(3, .int x3_1), (0, .ref (ad 0)), (1, .int x1), (2, .int x2), (4, .int x4), (5, .int x5)]) hx hb dX7_count_50 rfl hl (by decide) rfl (fun ls hl => ?_)
  refine lv_iload_n hx hb dX7_count_51 rfl (lv_at hl 3 rfl) ?_
  refine lv_aload_n hx hb dX7_count_52 rfl (lv_at hl 1 rfl) ?_
  refine gf_X7_rowOf C0 hw dX7_count_53 ?_
  refine lv_iload hx hb dX7_count_56 (lv_at hl 5 rfl) ?_
  refine ld_M_rowOf C0 hw h.1 dX7_count_58 ?_
  have h := h.2
  refine lv_iconst (v := -1) hx hb dX7_count_59 (by decide) ?_
  refine lv_icmp_eq (tgt := 67) hx hb dX7_count_60 (by decide) (fun c60 => ?_) (fun c60 => ?_)
  · have h := h.1 c60
    refine lv_iconst (v := 0) hx hb dX7_count_67 (by decide) ?_
    replace hl := lv_sub hl [1, 2, 0, 4, 5] rfl
    exact mb_X7_count_68 C0 _ hK25 x1 x3_1 x4 x5 (0 : Int32) x2 S _ _ ls h hw hl
  · have h := h.2 c60
    refine lv_iconst (v := 1) hx hb dX7_count_63 (by decide) ?_
    refine lv_goto (tgt := 68) hx hb dX7_count_64 (by decide) ?_
    replace hl := lv_sub hl [1, 2, 0, 4, 5] rfl
    exact mb_X7_count_68 C0 _ hK25 x1 x3_1 x4 x5 (1 : Int32) x2 S _ _ ls h hw hl
set_option maxHeartbeats 4000000 in
set_option maxRecDepth 100000 in
theorem mb_X7_count_25 {p : Program} {l : Launch} {e : Env} {s : State} {m : MethodId} {args : Array Value} {below : List Frame} {meth : Method} {c : Code} {D : va_G} {ad : Nat → Nat} {cI cJ cZ : ClassId} {A : Nat → Prop} {post : Int32 → MS → Prop} (C0 : Cx p s m args meth c cX7_count 7 RX7 (some .int) D cI cJ cZ A) :
 ∀ (n : Nat) (x1 : Int32) (x2 : Int32) (x3 : Int32) (x4 : Int32) (x5 : Int32) (S : MS) (H : Heap) (locs : List Loc) (ls : Array Slot), wp_X7_count_25 post n x1 x2 x3 x4 x5 S → Wd (WM ad cI cJ cZ) D A s.heap H locs S → lv_has ls 7 [(0, .ref (ad 0)), (1, .int x1), (2, .int x2), (3, .int x3), (4, .int x4), (5, .int x5)] → W p l e rm_X7_count s m args below meth c H locs 0 0 (QI (WM ad cI cJ cZ) D A s args below post) (F0 m 25 ls []) := by
  have hx := C0.1
  have hb := C0.2.1
  intro n
  induction n with
  | zero => intro x1 x2 x3 x4 x5 S H locs ls h; exact h.elim
  | succ n ih =>
    intro x1 x2 x3 x4 x5 S H locs ls h hw hl
    replace h : ws_X7_count_25 (wp_X7_count_25  post n)  post x1 x2 x3 x4 x5 S := h
    unfold ws_X7_count_25 at h
    refine lv_iload hx hb dX7_count_25 (lv_at hl 5 rfl) ?_
    refine lv_sipush (v := 150) hx hb dX7_count_27 (by decide) ?_
    refine lv_icmp_ge (tgt := 141) hx hb dX7_count_30 (by decide) (fun c30 => ?_) (fun c30 => ?_)
    · have h := h.1 c30
      refine lv_iload_n hx hb dX7_count_141 rfl (lv_at hl 1 rfl) ?_
      refine lv_if_ne (tgt := 152) hx hb dX7_count_142 (by decide) (fun c142 => ?_) (fun c142 => ?_)
      · have h := h.1 c142
        refine lv_iload_n hx hb dX7_count_152 rfl (lv_at hl 1 rfl) ?_
        refine lv_iconst (v := 1) hx hb dX7_count_153 (by decide) ?_
        refine lv_icmp_ne (tgt := 161) hx hb dX7_count_154 (by decide) (fun c154 => ?_) (fun c154 => ?_)
        · have h := h.1 c154
          refine lv_iload_n hx hb dX7_count_161 rfl (lv_at hl 1 rfl) ?_
          refine lv_iconst (v := 2) hx hb dX7_count_162 (by decide) ?_
          refine lv_icmp_ne (tgt := 170) hx hb dX7_count_163 (by decide) (fun c163 => ?_) (fun c163 => ?_)
          · have h := h.1 c163
            refine lv_iload_n hx hb dX7_count_170 rfl (lv_at hl 1 rfl) ?_
            refine lv_iconst (v := 3) hx hb dX7_count_171 (by decide) ?_
            refine lv_icmp_ne (tgt := 180) hx hb dX7_count_172 (by decide) (fun c172 => ?_) (fun c172 => ?_)
            · have h := h.1 c172
              refine lv_iload_n hx hb dX7_count_180 rfl (lv_at hl 1 rfl) ?_
              refine lv_iconst (v := 4) hx hb dX7_count_181 (by decide) ?_
              refine lv_icmp_ne (tgt := 192) hx hb dX7_count_182 (by decide) (fun c182 => ?_) (fun c182 => ?_)
              · have h := h.1 c182
                refine lv_aload_n hx hb dX7_count_192 rfl (lv_at hl 0 rfl) ?_
                refine gf_X7_clashing C0 hw dX7_count_193 ?_
                exact rtI C0 hw h dX7_count_196
              · have h := h.2 c182
                refine lv_aload_n hx hb dX7_count_185 rfl (lv_at hl 0 rfl) ?_
                refine gf_X7_lacking C0 hw dX7_count_186 ?_
                refine lv_goto (tgt := 196) hx hb dX7_count_189 (by decide) ?_
                exact rtI C0 hw h dX7_count_196
            · have h := h.2 c172
              refine lv_iload hx hb dX7_count_175 (lv_at hl 4 rfl) ?_
              refine lv_goto (tgt := 196) hx hb dX7_count_177 (by decide) ?_
              exact rtI C0 hw h dX7_count_196
          · have h := h.2 c163
            refine lv_iload_n hx hb dX7_count_166 rfl (lv_at hl 3 rfl) ?_
            refine lv_goto (tgt := 196) hx hb dX7_count_167 (by decide) ?_
            exact rtI C0 hw h dX7_count_196
        · have h := h.2 c154
          refine lv_iload_n hx hb dX7_count_157 rfl (lv_at hl 2 rfl) ?_
          refine lv_goto (tgt := 196) hx hb dX7_count_158 (by decide) ?_
          exact rtI C0 hw h dX7_count_196
      · have h := h.2 c142
        refine lv_aload_n hx hb dX7_count_145 rfl (lv_at hl 0 rfl) ?_
        refine gf_X7_variables C0 hw dX7_count_146 ?_
        refine lv_goto (tgt := 196) hx hb dX7_count_149 (by decide) ?_
        exact rtI C0 hw h dX7_count_196
    · have h := h.2 c30
      refine lv_iload_n hx hb dX7_count_33 rfl (lv_at hl 3 rfl) ?_
      refine lv_aload_n hx hb dX7_count_34 rfl (lv_at hl 0 rfl) ?_
      refine gf_X7_come C0 hw dX7_count_35 ?_
      refine lv_iload hx hb dX7_count_38 (lv_at hl 5 rfl) ?_
      refine ld_M_come C0 hw h.1 dX7_count_40 ?_
      have h := h.2
      refine lv_if_eq (tgt := 48) hx hb dX7_count_41 (by decide) (fun c41 => ?_) (fun c41 => ?_)
      · have h := h.1 c41
        refine lv_iconst (v := 0) hx hb dX7_count_48 (by decide) ?_
        replace hl := lv_sub hl [0, 1, 2, 4, 5] rfl
        exact mb_X7_count_49 C0 _ ih x1 x2 x4 x5 (0 : Int32) x3 S _ _ ls h hw hl
      · have h := h.2 c41
        refine lv_iconst (v := 1) hx hb dX7_count_44 (by decide) ?_
        refine lv_goto (tgt := 49) hx hb dX7_count_45 (by decide) ?_
        replace hl := lv_sub hl [0, 1, 2, 4, 5] rfl
        exact mb_X7_count_49 C0 _ ih x1 x2 x4 x5 (1 : Int32) x3 S _ _ ls h hw hl
set_option maxHeartbeats 4000000 in
set_option maxRecDepth 100000 in
theorem m_X7_count (l : Launch) (D : va_G) (ad : Nat → Nat) (cI cJ cZ : ClassId) (S : MS) (x1 : Int32) (post : Int32 → MS → Prop) (h : wp_X7_count S x1 post) : CI (WM ad cI cJ cZ) D cI cJ cZ l yX7_count (.code yX7_count cX7_count 7 (some .int) :: gt) rm_X7_count S [.ref (ad 0), .int x1] post := by
  refine enI (by decide) (Nat.le_of_ble_eq_true rfl) ?_
  intro p e s m below meth c A ls C0 hw hl
  have C0 : Cx p s m _ meth c cX7_count 7 RX7 (some .int) D cI cJ cZ A := C0
  have hl : lv_has ls 7 [(0, .ref (ad 0)), (1, .int x1)] := hl
  have hx := C0.1
  have hb := C0.2.1
  unfold wp_X7_count at h
  refine lv_iload_n hx hb dX7_count_0 rfl (lv_at hl 1 rfl) ?_
  refine lv_iconst (v := 0) hx hb dX7_count_1 (by decide) ?_
  refine lv_iconst (v := 5) hx hb dX7_count_2 (by decide) ?_
  refine clSI (As := [.int x1, .int (0 : Int32), .int (5 : Int32)]) (rest := []) C0 (m_X7_in l D ad cI cJ cZ S x1 (0 : Int32) (5 : Int32) _ h) cal_X7_in kw_294 kw_293 rfl hl.1 rfl (Nat.le_of_ble_eq_true rfl) ⟨Nat.le_of_ble_eq_true rfl, Nat.le_of_ble_eq_true rfl⟩ rfl rfl dX7_count_3 hw (fun r3 S3 H locs h hw => ?_)
  replace h := h
  refine lv_if_ne (tgt := 11) hx hb dX7_count_6 (by decide) (fun c6 => ?_) (fun c6 => ?_)
  · have h := h.1 c6
    refine lv_aload_n hx hb dX7_count_11 rfl (lv_at hl 0 rfl) ?_
    refine clVV (As := []) (rest := []) (ci := 6) (k := 0) C0 (m_X7_workOut l D ad cI cJ cZ S3 _ h) cal_X7_workOut kw_387 kw_386 kw_385 rfl rfl rfl rfl hl.1 rfl (Nat.le_of_ble_eq_true rfl) ⟨Nat.le_of_ble_eq_true rfl, Nat.le_of_ble_eq_true rfl⟩ rfl rfl dX7_count_12 hw (fun S12 H locs h hw => ?_)
    replace h := h
    refine lv_iconst (v := 0) hx hb dX7_count_15 (by decide) ?_
    refine lv_istore_n (lv' := [(2, .int (0 : Int32)), (0, .ref (ad 0)), (1, .int x1)]) hx hb dX7_count_16 rfl hl (by decide) rfl (fun ls hl => ?_)
    refine lv_iconst (v := 0) hx hb dX7_count_17 (by decide) ?_
    refine lv_istore_n (lv' := [(3, .int (0 : Int32)), (2, .int (0 : Int32)), (0, .ref (ad 0)), (1, .int x1)]) hx hb dX7_count_18 rfl hl (by decide) rfl (fun ls hl => ?_)
    refine lv_iconst (v := 0) hx hb dX7_count_19 (by decide) ?_
    refine lv_istore (lv' := [(4, .int (0 : Int32)), (3, .int (0 : Int32)), (2, .int (0 : Int32)), (0, .ref (ad 0)), (1, .int x1)]) hx hb dX7_count_20 hl (by decide) rfl (fun ls hl => ?_)
    refine lv_iconst (v := 0) hx hb dX7_count_22 (by decide) ?_
    refine lv_istore (lv' := [(5, .int (0 : Int32)), (4, .int (0 : Int32)), (3, .int (0 : Int32)), (2, .int (0 : Int32)), (0, .ref (ad 0)), (1, .int x1)]) hx hb dX7_count_23 hl (by decide) rfl (fun ls hl => ?_)
    replace hl := lv_sub hl [4, 5, 3, 2, 1, 0] rfl
    obtain ⟨n, h⟩ := h
    exact mb_X7_count_25 C0 n x1 (0 : Int32) (0 : Int32) (0 : Int32) (0 : Int32) S12 _ _ ls h hw hl
  · have h := h.2 c6
    refine lv_iconst (v := -1) hx hb dX7_count_9 (by decide) ?_
    exact rtI C0 hw h dX7_count_10

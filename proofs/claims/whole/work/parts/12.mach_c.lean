abbrev rm_X6_forget : Room := { frames := 0, cells := 0, slots := 0, locals := 0 }
set_option maxHeartbeats 4000000 in
set_option maxRecDepth 100000 in
theorem m_X6_forget (l : Launch) (D : va_G) (ad : Nat → Nat) (cI cJ cZ : ClassId) (S : CS)  (post : CS → Prop) (h : wp_X6_forget S  post) : CV (WC ad cI cJ cZ) D cI cJ cZ l yX6_forget (.code yX6_forget cX6_forget 1 none :: gt) rm_X6_forget S [.ref (ad 0)] post := by
  refine enV (by decide) (Nat.le_of_ble_eq_true rfl) ?_
  intro p e s m below meth c A ls C0 hw hl
  have C0 : Cx p s m _ meth c cX6_forget 1 RX6 none D cI cJ cZ A := C0
  have hl : lv_has ls 1 [(0, .ref (ad 0))] := hl
  have hx := C0.1
  have hb := C0.2.1
  unfold wp_X6_forget at h
  refine lv_aload_n hx hb dX6_forget_0 rfl (lv_at hl 0 rfl) ?_
  refine lv_iconst (v := 0) hx hb dX6_forget_1 (by decide) ?_
  refine pf_X6_waysKnown C0 hw (Or.inl rfl) dX6_forget_2 (fun H locs hw => ?_)
  obtain ⟨S_1, eS_1⟩ : ∃ z, z = sC_wK S (0 : Int32) := ⟨_, rfl⟩
  rw [← eS_1] at hw
  have h := h S_1 eS_1
  refine lv_aload_n hx hb dX6_forget_5 rfl (lv_at hl 0 rfl) ?_
  refine lv_iconst (v := 0) hx hb dX6_forget_6 (by decide) ?_
  refine pf_X6_leavesKnown C0 hw (Or.inl rfl) dX6_forget_7 (fun H locs hw => ?_)
  obtain ⟨S_2, eS_2⟩ : ∃ z, z = sC_eK S_1 (0 : Int32) := ⟨_, rfl⟩
  rw [← eS_2] at hw
  have h := h S_2 eS_2
  refine lv_aload_n hx hb dX6_forget_10 rfl (lv_at hl 0 rfl) ?_
  refine lv_iconst (v := 0) hx hb dX6_forget_11 (by decide) ?_
  refine pf_X6_loansKnown C0 hw (Or.inl rfl) dX6_forget_12 (fun H locs hw => ?_)
  obtain ⟨S_3, eS_3⟩ : ∃ z, z = sC_lK S_2 (0 : Int32) := ⟨_, rfl⟩
  rw [← eS_3] at hw
  have h := h S_3 eS_3
  exact rtV C0 hw h dX6_forget_15
abbrev rm_X6_variable : Room := { frames := 1, cells := 0, slots := 0, locals := 22 }
set_option maxHeartbeats 4000000 in
set_option maxRecDepth 100000 in
theorem m_X6_variable (l : Launch) (D : va_G) (ad : Nat → Nat) (cI cJ cZ : ClassId) (S : CS) (x1 : Int32) (x2 : Int32) (post : Int32 → CS → Prop) (h : wp_X6_variable S x1 x2 post) : CI (WC ad cI cJ cZ) D cI cJ cZ l yX6_variable (.code yX6_variable cX6_variable 3 (some .int) :: gt) rm_X6_variable S [.ref (ad 0), .int x1, .int x2] post := by
  refine enI (by decide) (Nat.le_of_ble_eq_true rfl) ?_
  intro p e s m below meth c A ls C0 hw hl
  have C0 : Cx p s m _ meth c cX6_variable 3 RX6 (some .int) D cI cJ cZ A := C0
  have hl : lv_has ls 3 [(0, .ref (ad 0)), (1, .int x1), (2, .int x2)] := hl
  have hx := C0.1
  have hb := C0.2.1
  unfold wp_X6_variable at h
  refine lv_iload_n hx hb dX6_variable_0 rfl (lv_at hl 1 rfl) ?_
  refine lv_iload_n hx hb dX6_variable_1 rfl (lv_at hl 2 rfl) ?_
  refine clSI (As := [.int x1, .int x2]) (rest := []) C0 (m_X6_isSort l D ad cI cJ cZ S x1 x2 _ h) cal_X6_isSort kw_1 kw_0 rfl hl.1 rfl (Nat.le_of_ble_eq_true rfl) ⟨Nat.le_of_ble_eq_true rfl, Nat.le_of_ble_eq_true rfl⟩ rfl rfl dX6_variable_2 hw (fun r2 S2 H locs h hw => ?_)
  replace h := h
  refine lv_if_eq (tgt := 18) hx hb dX6_variable_5 (by decide) (fun c5 => ?_) (fun c5 => ?_)
  · have h := h.1 c5
    refine lv_iconst (v := -1) hx hb dX6_variable_18 (by decide) ?_
    exact rtI C0 hw h dX6_variable_19
  · have h := h.2 c5
    refine lv_aload_n hx hb dX6_variable_8 rfl (lv_at hl 0 rfl) ?_
    refine gf_X6_variables C0 hw dX6_variable_9 ?_
    refine clVI (As := []) (rest := []) (ci := 3) (k := 1) C0 (m_X4_isFull l D ad cI cJ cZ S2 _ h) cal_X4_isFull kw_4 kw_3 kw_2 rfl rfl rfl rfl hl.1 rfl (Nat.le_of_ble_eq_true rfl) ⟨Nat.le_of_ble_eq_true rfl, Nat.le_of_ble_eq_true rfl⟩ rfl rfl dX6_variable_12 hw (fun r12 S12 H locs h hw => ?_)
    replace h := h
    refine lv_if_eq (tgt := 20) hx hb dX6_variable_15 (by decide) (fun c15 => ?_) (fun c15 => ?_)
    · have h := h.1 c15
      refine lv_aload_n hx hb dX6_variable_20 rfl (lv_at hl 0 rfl) ?_
      refine clVV (As := []) (rest := []) (ci := 5) (k := 0) C0 (m_X6_forget l D ad cI cJ cZ S12 _ h) cal_X6_forget kw_7 kw_6 kw_5 rfl rfl rfl rfl hl.1 rfl (Nat.le_of_ble_eq_true rfl) ⟨Nat.le_of_ble_eq_true rfl, Nat.le_of_ble_eq_true rfl⟩ rfl rfl dX6_variable_21 hw (fun S21 H locs h hw => ?_)
      replace h := h
      refine lv_aload_n hx hb dX6_variable_24 rfl (lv_at hl 0 rfl) ?_
      refine gf_X6_variables C0 hw dX6_variable_25 ?_
      refine lv_iload_n hx hb dX6_variable_28 rfl (lv_at hl 1 rfl) ?_
      refine lv_iload_n hx hb dX6_variable_29 rfl (lv_at hl 2 rfl) ?_
      refine clVI (As := [.int x1, .int x2]) (rest := []) (ci := 3) (k := 1) C0 (m_X4_add l D ad cI cJ cZ S21 x1 x2 _ h) cal_X4_add kw_10 kw_9 kw_8 rfl rfl rfl rfl hl.1 rfl (Nat.le_of_ble_eq_true rfl) ⟨Nat.le_of_ble_eq_true rfl, Nat.le_of_ble_eq_true rfl⟩ rfl rfl dX6_variable_30 hw (fun r30 S30 H locs h hw => ?_)
      replace h := h
      exact rtI C0 hw h dX6_variable_33
    · have h := h.2 c15
      refine lv_iconst (v := -1) hx hb dX6_variable_18 (by decide) ?_
      exact rtI C0 hw h dX6_variable_19
abbrev rm_X6_begins : Room := { frames := 4, cells := 0, slots := 0, locals := 90 }
set_option maxHeartbeats 4000000 in
set_option maxRecDepth 100000 in
theorem m_X6_begins (l : Launch) (D : va_G) (ad : Nat → Nat) (cI cJ cZ : ClassId) (S : CS) (x1 : Int32) (x2 : Int32) (post : Int32 → CS → Prop) (h : wp_X6_begins S x1 x2 post) : CI (WC ad cI cJ cZ) D cI cJ cZ l yX6_begins (.code yX6_begins cX6_begins 3 (some .int) :: gt) rm_X6_begins S [.ref (ad 0), .int x1, .int x2] post := by
  refine enI (by decide) (Nat.le_of_ble_eq_true rfl) ?_
  intro p e s m below meth c A ls C0 hw hl
  have C0 : Cx p s m _ meth c cX6_begins 3 RX6 (some .int) D cI cJ cZ A := C0
  have hl : lv_has ls 3 [(0, .ref (ad 0)), (1, .int x1), (2, .int x2)] := hl
  have hx := C0.1
  have hb := C0.2.1
  unfold wp_X6_begins at h
  refine lv_aload_n hx hb dX6_begins_0 rfl (lv_at hl 0 rfl) ?_
  refine gf_X6_variables C0 hw dX6_begins_1 ?_
  refine lv_iload_n hx hb dX6_begins_4 rfl (lv_at hl 1 rfl) ?_
  refine clVI (As := [.int x1]) (rest := []) (ci := 3) (k := 1) C0 (m_X4_has l D ad cI cJ cZ S x1 _ h) cal_X4_has kw_13 kw_12 kw_11 rfl rfl rfl rfl hl.1 rfl (Nat.le_of_ble_eq_true rfl) ⟨Nat.le_of_ble_eq_true rfl, Nat.le_of_ble_eq_true rfl⟩ rfl rfl dX6_begins_5 hw (fun r5 S5 H locs h hw => ?_)
  replace h := h
  refine lv_if_ne (tgt := 13) hx hb dX6_begins_8 (by decide) (fun c8 => ?_) (fun c8 => ?_)
  · have h := h.1 c8
    refine lv_aload_n hx hb dX6_begins_13 rfl (lv_at hl 0 rfl) ?_
    refine gf_X6_variables C0 hw dX6_begins_14 ?_
    refine lv_iload_n hx hb dX6_begins_17 rfl (lv_at hl 1 rfl) ?_
    refine lv_iload_n hx hb dX6_begins_18 rfl (lv_at hl 2 rfl) ?_
    refine clVV (As := [.int x1, .int x2]) (rest := []) (ci := 3) (k := 1) C0 (m_X4_begin l D ad cI cJ cZ S5 x1 x2 _ h) cal_X4_begin kw_27 kw_26 kw_25 rfl rfl rfl rfl hl.1 rfl (Nat.le_of_ble_eq_true rfl) ⟨Nat.le_of_ble_eq_true rfl, Nat.le_of_ble_eq_true rfl⟩ rfl rfl dX6_begins_19 hw (fun S19 H locs h hw => ?_)
    replace h := h
    refine lv_aload_n hx hb dX6_begins_22 rfl (lv_at hl 0 rfl) ?_
    refine clVV (As := []) (rest := []) (ci := 5) (k := 0) C0 (m_X6_forget l D ad cI cJ cZ S19 _ h) cal_X6_forget kw_7 kw_6 kw_5 rfl rfl rfl rfl hl.1 rfl (Nat.le_of_ble_eq_true rfl) ⟨Nat.le_of_ble_eq_true rfl, Nat.le_of_ble_eq_true rfl⟩ rfl rfl dX6_begins_23 hw (fun S23 H locs h hw => ?_)
    replace h := h
    refine lv_iconst (v := 1) hx hb dX6_begins_26 (by decide) ?_
    exact rtI C0 hw h dX6_begins_27
  · have h := h.2 c8
    refine lv_iconst (v := -1) hx hb dX6_begins_11 (by decide) ?_
    exact rtI C0 hw h dX6_begins_12
abbrev rm_X6_put : Room := { frames := 5, cells := 0, slots := 0, locals := 116 }
set_option maxHeartbeats 4000000 in
set_option maxRecDepth 100000 in
theorem m_X6_put (l : Launch) (D : va_G) (ad : Nat → Nat) (cI cJ cZ : ClassId) (S : CS) (x1 : Int32) (x2 : Int32) (x3 : Int32) (x4 : Int32) (x5 : Int32) (post : Int32 → CS → Prop) (h : wp_X6_put S x1 x2 x3 x4 x5 post) : CI (WC ad cI cJ cZ) D cI cJ cZ l yX6_put (.code yX6_put cX6_put 6 (some .int) :: gt) rm_X6_put S [.ref (ad 0), .int x1, .int x2, .int x3, .int x4, .int x5] post := by
  refine enI (by decide) (Nat.le_of_ble_eq_true rfl) ?_
  intro p e s m below meth c A ls C0 hw hl
  have C0 : Cx p s m _ meth c cX6_put 6 RX6 (some .int) D cI cJ cZ A := C0
  have hl : lv_has ls 6 [(0, .ref (ad 0)), (1, .int x1), (2, .int x2), (3, .int x3), (4, .int x4), (5, .int x5)] := hl
  have hx := C0.1
  have hb := C0.2.1
  unfold wp_X6_put at h
  refine lv_aload_n hx hb dX6_put_0 rfl (lv_at hl 0 rfl) ?_
  refine gf_X6_acts C0 hw dX6_put_1 ?_
  refine lv_iload_n hx hb dX6_put_4 rfl (lv_at hl 1 rfl) ?_
  refine lv_iload_n hx hb dX6_put_5 rfl (lv_at hl 2 rfl) ?_
  refine lv_iload_n hx hb dX6_put_6 rfl (lv_at hl 3 rfl) ?_
  refine lv_iload hx hb dX6_put_7 (lv_at hl 4 rfl) ?_
  refine lv_iload hx hb dX6_put_9 (lv_at hl 5 rfl) ?_
  refine clVV (As := [.int x1, .int x2, .int x3, .int x4, .int x5]) (rest := []) (ci := 0) (k := 4) C0 (m_X0_put l D ad cI cJ cZ S x1 x2 x3 x4 x5 _ h) cal_X0_put kw_67 kw_66 kw_65 rfl rfl rfl rfl hl.1 rfl (Nat.le_of_ble_eq_true rfl) ⟨Nat.le_of_ble_eq_true rfl, Nat.le_of_ble_eq_true rfl⟩ rfl rfl dX6_put_11 hw (fun S11 H locs h hw => ?_)
  replace h := h
  refine lv_aload_n hx hb dX6_put_14 rfl (lv_at hl 0 rfl) ?_
  refine clVV (As := []) (rest := []) (ci := 5) (k := 0) C0 (m_X6_forget l D ad cI cJ cZ S11 _ h) cal_X6_forget kw_7 kw_6 kw_5 rfl rfl rfl rfl hl.1 rfl (Nat.le_of_ble_eq_true rfl) ⟨Nat.le_of_ble_eq_true rfl, Nat.le_of_ble_eq_true rfl⟩ rfl rfl dX6_put_15 hw (fun S15 H locs h hw => ?_)
  replace h := h
  refine lv_iconst (v := 1) hx hb dX6_put_18 (by decide) ?_
  exact rtI C0 hw h dX6_put_19
abbrev rm_X6_act : Room := { frames := 6, cells := 0, slots := 0, locals := 141 }
set_option maxHeartbeats 4000000 in
set_option maxRecDepth 100000 in
theorem mb_X6_act_44 {p : Program} {l : Launch} {e : Env} {s : State} {m : MethodId} {args : Array Value} {below : List Frame} {meth : Method} {c : Code} {D : va_G} {ad : Nat → Nat} {cI cJ cZ : ClassId} {A : Nat → Prop} {post : Int32 → CS → Prop} (C0 : Cx p s m args meth c cX6_act 5 RX6 (some .int) D cI cJ cZ A) :
 ∀ (x1 : Int32) (x2 : Int32) (x3 : Int32) (S : CS) (H : Heap) (locs : List Loc) (ls : Array Slot), wp_X6_act_44 post x1 x2 x3 S → Wd (WC ad cI cJ cZ) D A s.heap H locs S → lv_has ls 5 [(0, .ref (ad 0)), (1, .int x1), (2, .int x2), (3, .int x3)] → W p l e rm_X6_act s m args below meth c H locs 0 0 (QI (WC ad cI cJ cZ) D A s args below post) (F0 m 44 ls []) := by
  have hx := C0.1
  have hb := C0.2.1
  intro x1 x2 x3 S H locs ls h hw hl
  unfold wp_X6_act_44 at h
  refine lv_aload_n hx hb dX6_act_44 rfl (lv_at hl 0 rfl) ?_
  refine gf_X6_variables C0 hw dX6_act_45 ?_
  refine lv_iload_n hx hb dX6_act_48 rfl (lv_at hl 3 rfl) ?_
  refine clVI (As := [.int x3]) (rest := []) (ci := 3) (k := 1) C0 (m_X4_has l D ad cI cJ cZ S x3 _ h) cal_X4_has kw_13 kw_12 kw_11 rfl rfl rfl rfl hl.1 rfl (Nat.le_of_ble_eq_true rfl) ⟨Nat.le_of_ble_eq_true rfl, Nat.le_of_ble_eq_true rfl⟩ rfl rfl dX6_act_49 hw (fun r49 S49 H locs h hw => ?_)
  replace h := h
  refine lv_if_eq (tgt := 67) hx hb dX6_act_52 (by decide) (fun c52 => ?_) (fun c52 => ?_)
  · have h := h.1 c52
    refine lv_iconst (v := -1) hx hb dX6_act_67 (by decide) ?_
    exact rtI C0 hw h dX6_act_68
  · have h := h.2 c52
    refine lv_aload_n hx hb dX6_act_55 rfl (lv_at hl 0 rfl) ?_
    refine lv_iload_n hx hb dX6_act_56 rfl (lv_at hl 1 rfl) ?_
    refine lv_iload_n hx hb dX6_act_57 rfl (lv_at hl 2 rfl) ?_
    refine lv_iload_n hx hb dX6_act_58 rfl (lv_at hl 3 rfl) ?_
    refine lv_iconst (v := 0) hx hb dX6_act_59 (by decide) ?_
    refine lv_iconst (v := -1) hx hb dX6_act_60 (by decide) ?_
    refine clVI (As := [.int x1, .int x2, .int x3, .int (0 : Int32), .int (-1 : Int32)]) (rest := []) (ci := 5) (k := 0) C0 (m_X6_put l D ad cI cJ cZ S49 x1 x2 x3 (0 : Int32) (-1 : Int32) _ h) cal_X6_put kw_70 kw_69 kw_68 rfl rfl rfl rfl hl.1 rfl (Nat.le_of_ble_eq_true rfl) ⟨Nat.le_of_ble_eq_true rfl, Nat.le_of_ble_eq_true rfl⟩ rfl rfl dX6_act_61 hw (fun r61 S61 H locs h hw => ?_)
    replace h := h
    refine lv_goto (tgt := 68) hx hb dX6_act_64 (by decide) ?_
    exact rtI C0 hw h dX6_act_68
set_option maxHeartbeats 4000000 in
set_option maxRecDepth 100000 in
theorem m_X6_act (l : Launch) (D : va_G) (ad : Nat → Nat) (cI cJ cZ : ClassId) (S : CS) (x1 : Int32) (x2 : Int32) (x3 : Int32) (x4 : Int32) (post : Int32 → CS → Prop) (h : wp_X6_act S x1 x2 x3 x4 post) : CI (WC ad cI cJ cZ) D cI cJ cZ l yX6_act (.code yX6_act cX6_act 5 (some .int) :: gt) rm_X6_act S [.ref (ad 0), .int x1, .int x2, .int x3, .int x4] post := by
  refine enI (by decide) (Nat.le_of_ble_eq_true rfl) ?_
  intro p e s m below meth c A ls C0 hw hl
  have C0 : Cx p s m _ meth c cX6_act 5 RX6 (some .int) D cI cJ cZ A := C0
  have hl : lv_has ls 5 [(0, .ref (ad 0)), (1, .int x1), (2, .int x2), (3, .int x3), (4, .int x4)] := hl
  have hx := C0.1
  have hb := C0.2.1
  unfold wp_X6_act at h
  refine lv_iload_n hx hb dX6_act_0 rfl (lv_at hl 1 rfl) ?_
  refine clSI (As := [.int x1]) (rest := []) C0 (m_X6_isPoint l D ad cI cJ cZ S x1 _ h) cal_X6_isPoint kw_72 kw_71 rfl hl.1 rfl (Nat.le_of_ble_eq_true rfl) ⟨Nat.le_of_ble_eq_true rfl, Nat.le_of_ble_eq_true rfl⟩ rfl rfl dX6_act_1 hw (fun r1 S1 H locs h hw => ?_)
  replace h := h
  refine lv_if_eq (tgt := 17) hx hb dX6_act_4 (by decide) (fun c4 => ?_) (fun c4 => ?_)
  · have h := h.1 c4
    refine lv_iconst (v := -1) hx hb dX6_act_17 (by decide) ?_
    exact rtI C0 hw h dX6_act_18
  · have h := h.2 c4
    refine lv_iload_n hx hb dX6_act_7 rfl (lv_at hl 2 rfl) ?_
    refine lv_if_lt (tgt := 17) hx hb dX6_act_8 (by decide) (fun c8 => ?_) (fun c8 => ?_)
    · have h := h.1 c8
      refine lv_iconst (v := -1) hx hb dX6_act_17 (by decide) ?_
      exact rtI C0 hw h dX6_act_18
    · have h := h.2 c8
      refine lv_iload_n hx hb dX6_act_11 rfl (lv_at hl 2 rfl) ?_
      refine lv_bipush (v := 6) hx hb dX6_act_12 (by decide) ?_
      refine lv_icmp_le (tgt := 19) hx hb dX6_act_14 (by decide) (fun c14 => ?_) (fun c14 => ?_)
      · have h := h.1 c14
        refine lv_iload_n hx hb dX6_act_19 rfl (lv_at hl 2 rfl) ?_
        refine lv_if_ne (tgt := 33) hx hb dX6_act_20 (by decide) (fun c20 => ?_) (fun c20 => ?_)
        · have h := h.1 c20
          refine lv_iload_n hx hb dX6_act_33 rfl (lv_at hl 2 rfl) ?_
          refine lv_iconst (v := 5) hx hb dX6_act_34 (by decide) ?_
          refine lv_icmp_eq (tgt := 44) hx hb dX6_act_35 (by decide) (fun c35 => ?_) (fun c35 => ?_)
          · have h := h.1 c35
            replace hl := lv_sub hl [0, 1, 2, 3] rfl
            exact mb_X6_act_44 C0 x1 x2 x3 S1 _ _ ls h hw hl
          · have h := h.2 c35
            refine lv_iload_n hx hb dX6_act_38 rfl (lv_at hl 2 rfl) ?_
            refine lv_bipush (v := 6) hx hb dX6_act_39 (by decide) ?_
            refine lv_icmp_ne (tgt := 69) hx hb dX6_act_41 (by decide) (fun c41 => ?_) (fun c41 => ?_)
            · have h := h.1 c41
              refine lv_aload_n hx hb dX6_act_69 rfl (lv_at hl 0 rfl) ?_
              refine gf_X6_variables C0 hw dX6_act_70 ?_
              refine lv_iload_n hx hb dX6_act_73 rfl (lv_at hl 2 rfl) ?_
              refine lv_iload_n hx hb dX6_act_74 rfl (lv_at hl 3 rfl) ?_
              refine lv_iload hx hb dX6_act_75 (lv_at hl 4 rfl) ?_
              refine clVI (As := [.int x2, .int x3, .int x4]) (rest := []) (ci := 3) (k := 1) C0 (m_X4_mayAct l D ad cI cJ cZ S1 x2 x3 x4 _ h) cal_X4_mayAct kw_84 kw_83 kw_82 rfl rfl rfl rfl hl.1 rfl (Nat.le_of_ble_eq_true rfl) ⟨Nat.le_of_ble_eq_true rfl, Nat.le_of_ble_eq_true rfl⟩ rfl rfl dX6_act_77 hw (fun r77 S77 H locs h hw => ?_)
              replace h := h
              refine lv_if_eq (tgt := 96) hx hb dX6_act_80 (by decide) (fun c80 => ?_) (fun c80 => ?_)
              · have h := h.1 c80
                refine lv_iconst (v := -1) hx hb dX6_act_96 (by decide) ?_
                exact rtI C0 hw h dX6_act_97
              · have h := h.2 c80
                refine lv_aload_n hx hb dX6_act_83 rfl (lv_at hl 0 rfl) ?_
                refine lv_iload_n hx hb dX6_act_84 rfl (lv_at hl 1 rfl) ?_
                refine lv_iload_n hx hb dX6_act_85 rfl (lv_at hl 2 rfl) ?_
                refine lv_iload_n hx hb dX6_act_86 rfl (lv_at hl 3 rfl) ?_
                refine lv_iload hx hb dX6_act_87 (lv_at hl 4 rfl) ?_
                refine lv_iconst (v := -1) hx hb dX6_act_89 (by decide) ?_
                refine clVI (As := [.int x1, .int x2, .int x3, .int x4, .int (-1 : Int32)]) (rest := []) (ci := 5) (k := 0) C0 (m_X6_put l D ad cI cJ cZ S77 x1 x2 x3 x4 (-1 : Int32) _ h) cal_X6_put kw_70 kw_69 kw_68 rfl rfl rfl rfl hl.1 rfl (Nat.le_of_ble_eq_true rfl) ⟨Nat.le_of_ble_eq_true rfl, Nat.le_of_ble_eq_true rfl⟩ rfl rfl dX6_act_90 hw (fun r90 S90 H locs h hw => ?_)
                replace h := h
                refine lv_goto (tgt := 97) hx hb dX6_act_93 (by decide) ?_
                exact rtI C0 hw h dX6_act_97
            · have h := h.2 c41
              replace hl := lv_sub hl [0, 1, 2, 3] rfl
              exact mb_X6_act_44 C0 x1 x2 x3 S1 _ _ ls h hw hl
        · have h := h.2 c20
          refine lv_aload_n hx hb dX6_act_23 rfl (lv_at hl 0 rfl) ?_
          refine lv_iload_n hx hb dX6_act_24 rfl (lv_at hl 1 rfl) ?_
          refine lv_iconst (v := 0) hx hb dX6_act_25 (by decide) ?_
          refine lv_iconst (v := 0) hx hb dX6_act_26 (by decide) ?_
          refine lv_iconst (v := 0) hx hb dX6_act_27 (by decide) ?_
          refine lv_iconst (v := -1) hx hb dX6_act_28 (by decide) ?_
          refine clVI (As := [.int x1, .int (0 : Int32), .int (0 : Int32), .int (0 : Int32), .int (-1 : Int32)]) (rest := []) (ci := 5) (k := 0) C0 (m_X6_put l D ad cI cJ cZ S1 x1 (0 : Int32) (0 : Int32) (0 : Int32) (-1 : Int32) _ h) cal_X6_put kw_70 kw_69 kw_68 rfl rfl rfl rfl hl.1 rfl (Nat.le_of_ble_eq_true rfl) ⟨Nat.le_of_ble_eq_true rfl, Nat.le_of_ble_eq_true rfl⟩ rfl rfl dX6_act_29 hw (fun r29 S29 H locs h hw => ?_)
          replace h := h
          exact rtI C0 hw h dX6_act_32
      · have h := h.2 c14
        refine lv_iconst (v := -1) hx hb dX6_act_17 (by decide) ?_
        exact rtI C0 hw h dX6_act_18
abbrev rm_X6_lend : Room := { frames := 6, cells := 0, slots := 0, locals := 141 }
set_option maxHeartbeats 4000000 in
set_option maxRecDepth 100000 in
theorem m_X6_lend (l : Launch) (D : va_G) (ad : Nat → Nat) (cI cJ cZ : ClassId) (S : CS) (x1 : Int32) (x2 : Int32) (x3 : Int32) (x4 : Int32) (post : Int32 → CS → Prop) (h : wp_X6_lend S x1 x2 x3 x4 post) : CI (WC ad cI cJ cZ) D cI cJ cZ l yX6_lend (.code yX6_lend cX6_lend 5 (some .int) :: gt) rm_X6_lend S [.ref (ad 0), .int x1, .int x2, .int x3, .int x4] post := by
  refine enI (by decide) (Nat.le_of_ble_eq_true rfl) ?_
  intro p e s m below meth c A ls C0 hw hl
  have C0 : Cx p s m _ meth c cX6_lend 5 RX6 (some .int) D cI cJ cZ A := C0
  have hl : lv_has ls 5 [(0, .ref (ad 0)), (1, .int x1), (2, .int x2), (3, .int x3), (4, .int x4)] := hl
  have hx := C0.1
  have hb := C0.2.1
  unfold wp_X6_lend at h
  refine lv_iload_n hx hb dX6_lend_0 rfl (lv_at hl 1 rfl) ?_
  refine clSI (As := [.int x1]) (rest := []) C0 (m_X6_isPoint l D ad cI cJ cZ S x1 _ h) cal_X6_isPoint kw_72 kw_71 rfl hl.1 rfl (Nat.le_of_ble_eq_true rfl) ⟨Nat.le_of_ble_eq_true rfl, Nat.le_of_ble_eq_true rfl⟩ rfl rfl dX6_lend_1 hw (fun r1 S1 H locs h hw => ?_)
  replace h := h
  refine lv_if_eq (tgt := 34) hx hb dX6_lend_4 (by decide) (fun c4 => ?_) (fun c4 => ?_)
  · have h := h.1 c4
    refine lv_iconst (v := -1) hx hb dX6_lend_34 (by decide) ?_
    exact rtI C0 hw h dX6_lend_35
  · have h := h.2 c4
    refine lv_aload_n hx hb dX6_lend_7 rfl (lv_at hl 0 rfl) ?_
    refine gf_X6_variables C0 hw dX6_lend_8 ?_
    refine lv_iload_n hx hb dX6_lend_11 rfl (lv_at hl 2 rfl) ?_
    refine lv_iload_n hx hb dX6_lend_12 rfl (lv_at hl 3 rfl) ?_
    refine lv_iload hx hb dX6_lend_13 (lv_at hl 4 rfl) ?_
    refine clVI (As := [.int x2, .int x3, .int x4]) (rest := []) (ci := 3) (k := 1) C0 (m_X4_mayLend l D ad cI cJ cZ S1 x2 x3 x4 _ h) cal_X4_mayLend kw_90 kw_89 kw_88 rfl rfl rfl rfl hl.1 rfl (Nat.le_of_ble_eq_true rfl) ⟨Nat.le_of_ble_eq_true rfl, Nat.le_of_ble_eq_true rfl⟩ rfl rfl dX6_lend_15 hw (fun r15 S15 H locs h hw => ?_)
    replace h := h
    refine lv_if_eq (tgt := 34) hx hb dX6_lend_18 (by decide) (fun c18 => ?_) (fun c18 => ?_)
    · have h := h.1 c18
      refine lv_iconst (v := -1) hx hb dX6_lend_34 (by decide) ?_
      exact rtI C0 hw h dX6_lend_35
    · have h := h.2 c18
      refine lv_aload_n hx hb dX6_lend_21 rfl (lv_at hl 0 rfl) ?_
      refine gf_X6_acts C0 hw dX6_lend_22 ?_
      refine lv_iload_n hx hb dX6_lend_25 rfl (lv_at hl 1 rfl) ?_
      refine clVI (As := [.int x1]) (rest := []) (ci := 0) (k := 4) C0 (m_X0_lendsBeside l D ad cI cJ cZ S15 x1 _ h) cal_X0_lendsBeside kw_64 kw_63 kw_91 rfl rfl rfl rfl hl.1 rfl (Nat.le_of_ble_eq_true rfl) ⟨Nat.le_of_ble_eq_true rfl, Nat.le_of_ble_eq_true rfl⟩ rfl rfl dX6_lend_26 hw (fun r26 S26 H locs h hw => ?_)
      replace h := h
      refine lv_bipush (v := 60) hx hb dX6_lend_29 (by decide) ?_
      refine lv_icmp_lt (tgt := 36) hx hb dX6_lend_31 (by decide) (fun c31 => ?_) (fun c31 => ?_)
      · have h := h.1 c31
        refine lv_aload_n hx hb dX6_lend_36 rfl (lv_at hl 0 rfl) ?_
        refine lv_iload_n hx hb dX6_lend_37 rfl (lv_at hl 1 rfl) ?_
        refine lv_bipush (v := 7) hx hb dX6_lend_38 (by decide) ?_
        refine lv_iload_n hx hb dX6_lend_40 rfl (lv_at hl 3 rfl) ?_
        refine lv_iload hx hb dX6_lend_41 (lv_at hl 4 rfl) ?_
        refine lv_iload_n hx hb dX6_lend_43 rfl (lv_at hl 2 rfl) ?_
        refine clVI (As := [.int x1, .int (7 : Int32), .int x3, .int x4, .int x2]) (rest := []) (ci := 5) (k := 0) C0 (m_X6_put l D ad cI cJ cZ S26 x1 (7 : Int32) x3 x4 x2 _ h) cal_X6_put kw_70 kw_69 kw_68 rfl rfl rfl rfl hl.1 rfl (Nat.le_of_ble_eq_true rfl) ⟨Nat.le_of_ble_eq_true rfl, Nat.le_of_ble_eq_true rfl⟩ rfl rfl dX6_lend_44 hw (fun r44 S44 H locs h hw => ?_)
        replace h := h
        exact rtI C0 hw h dX6_lend_47
      · have h := h.2 c31
        refine lv_iconst (v := -1) hx hb dX6_lend_34 (by decide) ?_
        exact rtI C0 hw h dX6_lend_35
abbrev rm_X6_copy : Room := { frames := 6, cells := 0, slots := 0, locals := 141 }
set_option maxHeartbeats 4000000 in
set_option maxRecDepth 100000 in
theorem m_X6_copy (l : Launch) (D : va_G) (ad : Nat → Nat) (cI cJ cZ : ClassId) (S : CS) (x1 : Int32) (x2 : Int32) (x3 : Int32) (post : Int32 → CS → Prop) (h : wp_X6_copy S x1 x2 x3 post) : CI (WC ad cI cJ cZ) D cI cJ cZ l yX6_copy (.code yX6_copy cX6_copy 4 (some .int) :: gt) rm_X6_copy S [.ref (ad 0), .int x1, .int x2, .int x3] post := by
  refine enI (by decide) (Nat.le_of_ble_eq_true rfl) ?_
  intro p e s m below meth c A ls C0 hw hl
  have C0 : Cx p s m _ meth c cX6_copy 4 RX6 (some .int) D cI cJ cZ A := C0
  have hl : lv_has ls 4 [(0, .ref (ad 0)), (1, .int x1), (2, .int x2), (3, .int x3)] := hl
  have hx := C0.1
  have hb := C0.2.1
  unfold wp_X6_copy at h
  refine lv_iload_n hx hb dX6_copy_0 rfl (lv_at hl 1 rfl) ?_
  refine clSI (As := [.int x1]) (rest := []) C0 (m_X6_isPoint l D ad cI cJ cZ S x1 _ h) cal_X6_isPoint kw_72 kw_71 rfl hl.1 rfl (Nat.le_of_ble_eq_true rfl) ⟨Nat.le_of_ble_eq_true rfl, Nat.le_of_ble_eq_true rfl⟩ rfl rfl dX6_copy_1 hw (fun r1 S1 H locs h hw => ?_)
  replace h := h
  refine lv_if_eq (tgt := 19) hx hb dX6_copy_4 (by decide) (fun c4 => ?_) (fun c4 => ?_)
  · have h := h.1 c4
    refine lv_iconst (v := -1) hx hb dX6_copy_19 (by decide) ?_
    exact rtI C0 hw h dX6_copy_20
  · have h := h.2 c4
    refine lv_aload_n hx hb dX6_copy_7 rfl (lv_at hl 0 rfl) ?_
    refine gf_X6_variables C0 hw dX6_copy_8 ?_
    refine lv_iload_n hx hb dX6_copy_11 rfl (lv_at hl 2 rfl) ?_
    refine lv_iload_n hx hb dX6_copy_12 rfl (lv_at hl 3 rfl) ?_
    refine clVI (As := [.int x2, .int x3]) (rest := []) (ci := 3) (k := 1) C0 (m_X4_mayCopy l D ad cI cJ cZ S1 x2 x3 _ h) cal_X4_mayCopy kw_94 kw_93 kw_92 rfl rfl rfl rfl hl.1 rfl (Nat.le_of_ble_eq_true rfl) ⟨Nat.le_of_ble_eq_true rfl, Nat.le_of_ble_eq_true rfl⟩ rfl rfl dX6_copy_13 hw (fun r13 S13 H locs h hw => ?_)
    replace h := h
    refine lv_if_ne (tgt := 21) hx hb dX6_copy_16 (by decide) (fun c16 => ?_) (fun c16 => ?_)
    · have h := h.1 c16
      refine lv_aload_n hx hb dX6_copy_21 rfl (lv_at hl 0 rfl) ?_
      refine lv_iload_n hx hb dX6_copy_22 rfl (lv_at hl 1 rfl) ?_
      refine lv_bipush (v := 8) hx hb dX6_copy_23 (by decide) ?_
      refine lv_iload_n hx hb dX6_copy_25 rfl (lv_at hl 3 rfl) ?_
      refine lv_iconst (v := 0) hx hb dX6_copy_26 (by decide) ?_
      refine lv_iload_n hx hb dX6_copy_27 rfl (lv_at hl 2 rfl) ?_
      refine clVI (As := [.int x1, .int (8 : Int32), .int x3, .int (0 : Int32), .int x2]) (rest := []) (ci := 5) (k := 0) C0 (m_X6_put l D ad cI cJ cZ S13 x1 (8 : Int32) x3 (0 : Int32) x2 _ h) cal_X6_put kw_70 kw_69 kw_68 rfl rfl rfl rfl hl.1 rfl (Nat.le_of_ble_eq_true rfl) ⟨Nat.le_of_ble_eq_true rfl, Nat.le_of_ble_eq_true rfl⟩ rfl rfl dX6_copy_28 hw (fun r28 S28 H locs h hw => ?_)
      replace h := h
      exact rtI C0 hw h dX6_copy_31
    · have h := h.2 c16
      refine lv_iconst (v := -1) hx hb dX6_copy_19 (by decide) ?_
      exact rtI C0 hw h dX6_copy_20
abbrev rm_X6_next : Room := { frames := 3, cells := 0, slots := 0, locals := 68 }
set_option maxHeartbeats 4000000 in
set_option maxRecDepth 100000 in
theorem mb_X6_next_34 {p : Program} {l : Launch} {e : Env} {s : State} {m : MethodId} {args : Array Value} {below : List Frame} {meth : Method} {c : Code} {D : va_G} {ad : Nat → Nat} {cI cJ cZ : ClassId} {A : Nat → Prop} {post : Int32 → CS → Prop} (C0 : Cx p s m args meth c cX6_next 4 RX6 (some .int) D cI cJ cZ A) :
 ∀ (x1 : Int32) (x2 : Int32) (x3 : Int32) (S : CS) (H : Heap) (locs : List Loc) (ls : Array Slot), wp_X6_next_34 post x1 x2 x3 S → Wd (WC ad cI cJ cZ) D A s.heap H locs S → lv_has ls 4 [(0, .ref (ad 0)), (1, .int x1), (2, .int x2), (3, .int x3)] → W p l e rm_X6_next s m args below meth c H locs 0 0 (QI (WC ad cI cJ cZ) D A s args below post) (F0 m 34 ls []) := by
  have hx := C0.1
  have hb := C0.2.1
  intro x1 x2 x3 S H locs ls h hw hl
  unfold wp_X6_next_34 at h
  refine lv_iload_n hx hb dX6_next_34 rfl (lv_at hl 3 rfl) ?_
  refine lv_if_ne (tgt := 47) hx hb dX6_next_35 (by decide) (fun c35 => ?_) (fun c35 => ?_)
  · have h := h.1 c35
    refine lv_aload_n hx hb dX6_next_47 rfl (lv_at hl 0 rfl) ?_
    refine clVV (As := []) (rest := []) (ci := 5) (k := 0) C0 (m_X6_forget l D ad cI cJ cZ S _ h) cal_X6_forget kw_7 kw_6 kw_5 rfl rfl rfl rfl hl.1 rfl (Nat.le_of_ble_eq_true rfl) ⟨Nat.le_of_ble_eq_true rfl, Nat.le_of_ble_eq_true rfl⟩ rfl rfl dX6_next_48 hw (fun S48 H locs h hw => ?_)
    replace h := h
    refine lv_iconst (v := 1) hx hb dX6_next_51 (by decide) ?_
    exact rtI C0 hw h dX6_next_52
  · have h := h.2 c35
    refine lv_aload_n hx hb dX6_next_38 rfl (lv_at hl 0 rfl) ?_
    refine gf_X6_ways C0 hw dX6_next_39 ?_
    refine lv_iload_n hx hb dX6_next_42 rfl (lv_at hl 1 rfl) ?_
    refine lv_iload_n hx hb dX6_next_43 rfl (lv_at hl 2 rfl) ?_
    refine clVV (As := [.int x1, .int x2]) (rest := []) (ci := 4) (k := 14) C0 (m_X5_remove l D ad cI cJ cZ S x1 x2 _ h) cal_X5_remove kw_103 kw_102 kw_101 rfl rfl rfl rfl hl.1 rfl (Nat.le_of_ble_eq_true rfl) ⟨Nat.le_of_ble_eq_true rfl, Nat.le_of_ble_eq_true rfl⟩ rfl rfl dX6_next_44 hw (fun S44 H locs h hw => ?_)
    replace h := h
    refine lv_aload_n hx hb dX6_next_47 rfl (lv_at hl 0 rfl) ?_
    refine clVV (As := []) (rest := []) (ci := 5) (k := 0) C0 (m_X6_forget l D ad cI cJ cZ S44 _ h) cal_X6_forget kw_7 kw_6 kw_5 rfl rfl rfl rfl hl.1 rfl (Nat.le_of_ble_eq_true rfl) ⟨Nat.le_of_ble_eq_true rfl, Nat.le_of_ble_eq_true rfl⟩ rfl rfl dX6_next_48 hw (fun S48 H locs h hw => ?_)
    replace h := h
    refine lv_iconst (v := 1) hx hb dX6_next_51 (by decide) ?_
    exact rtI C0 hw h dX6_next_52
set_option maxHeartbeats 4000000 in
set_option maxRecDepth 100000 in
theorem m_X6_next (l : Launch) (D : va_G) (ad : Nat → Nat) (cI cJ cZ : ClassId) (S : CS) (x1 : Int32) (x2 : Int32) (x3 : Int32) (post : Int32 → CS → Prop) (h : wp_X6_next S x1 x2 x3 post) : CI (WC ad cI cJ cZ) D cI cJ cZ l yX6_next (.code yX6_next cX6_next 4 (some .int) :: gt) rm_X6_next S [.ref (ad 0), .int x1, .int x2, .int x3] post := by
  refine enI (by decide) (Nat.le_of_ble_eq_true rfl) ?_
  intro p e s m below meth c A ls C0 hw hl
  have C0 : Cx p s m _ meth c cX6_next 4 RX6 (some .int) D cI cJ cZ A := C0
  have hl : lv_has ls 4 [(0, .ref (ad 0)), (1, .int x1), (2, .int x2), (3, .int x3)] := hl
  have hx := C0.1
  have hb := C0.2.1
  unfold wp_X6_next at h
  refine lv_iload_n hx hb dX6_next_0 rfl (lv_at hl 1 rfl) ?_
  refine clSI (As := [.int x1]) (rest := []) C0 (m_X6_isPoint l D ad cI cJ cZ S x1 _ h) cal_X6_isPoint kw_72 kw_71 rfl hl.1 rfl (Nat.le_of_ble_eq_true rfl) ⟨Nat.le_of_ble_eq_true rfl, Nat.le_of_ble_eq_true rfl⟩ rfl rfl dX6_next_1 hw (fun r1 S1 H locs h hw => ?_)
  replace h := h
  refine lv_if_eq (tgt := 14) hx hb dX6_next_4 (by decide) (fun c4 => ?_) (fun c4 => ?_)
  · have h := h.1 c4
    refine lv_iconst (v := -1) hx hb dX6_next_14 (by decide) ?_
    exact rtI C0 hw h dX6_next_15
  · have h := h.2 c4
    refine lv_iload_n hx hb dX6_next_7 rfl (lv_at hl 2 rfl) ?_
    refine clSI (As := [.int x2]) (rest := []) C0 (m_X6_isPoint l D ad cI cJ cZ S1 x2 _ h) cal_X6_isPoint kw_72 kw_71 rfl hl.1 rfl (Nat.le_of_ble_eq_true rfl) ⟨Nat.le_of_ble_eq_true rfl, Nat.le_of_ble_eq_true rfl⟩ rfl rfl dX6_next_8 hw (fun r8 S8 H locs h hw => ?_)
    replace h := h
    refine lv_if_ne (tgt := 16) hx hb dX6_next_11 (by decide) (fun c11 => ?_) (fun c11 => ?_)
    · have h := h.1 c11
      refine lv_iload_n hx hb dX6_next_16 rfl (lv_at hl 3 rfl) ?_
      refine lv_if_eq (tgt := 34) hx hb dX6_next_17 (by decide) (fun c17 => ?_) (fun c17 => ?_)
      · have h := h.1 c17
        replace hl := lv_sub hl [0, 1, 2, 3] rfl
        exact mb_X6_next_34 C0 x1 x2 x3 S8 _ _ ls h hw hl
      · have h := h.2 c17
        refine lv_aload_n hx hb dX6_next_20 rfl (lv_at hl 0 rfl) ?_
        refine gf_X6_ways C0 hw dX6_next_21 ?_
        refine lv_iload_n hx hb dX6_next_24 rfl (lv_at hl 1 rfl) ?_
        refine lv_iload_n hx hb dX6_next_25 rfl (lv_at hl 2 rfl) ?_
        refine clVI (As := [.int x1, .int x2]) (rest := []) (ci := 4) (k := 14) C0 (m_X5_add l D ad cI cJ cZ S8 x1 x2 _ h) cal_X5_add kw_106 kw_105 kw_104 rfl rfl rfl rfl hl.1 rfl (Nat.le_of_ble_eq_true rfl) ⟨Nat.le_of_ble_eq_true rfl, Nat.le_of_ble_eq_true rfl⟩ rfl rfl dX6_next_26 hw (fun r26 S26 H locs h hw => ?_)
        replace h := h
        refine lv_if_ne (tgt := 34) hx hb dX6_next_29 (by decide) (fun c29 => ?_) (fun c29 => ?_)
        · have h := h.1 c29
          replace hl := lv_sub hl [0, 1, 2, 3] rfl
          exact mb_X6_next_34 C0 x1 x2 x3 S26 _ _ ls h hw hl
        · have h := h.2 c29
          refine lv_iconst (v := -1) hx hb dX6_next_32 (by decide) ?_
          exact rtI C0 hw h dX6_next_33
    · have h := h.2 c11
      refine lv_iconst (v := -1) hx hb dX6_next_14 (by decide) ?_
      exact rtI C0 hw h dX6_next_15
abbrev rm_X6_knowWays : Room := { frames := 2, cells := 0, slots := 0, locals := 47 }
set_option maxHeartbeats 4000000 in
set_option maxRecDepth 100000 in
theorem m_X6_knowWays (l : Launch) (D : va_G) (ad : Nat → Nat) (cI cJ cZ : ClassId) (S : CS)  (post : CS → Prop) (h : wp_X6_knowWays S  post) : CV (WC ad cI cJ cZ) D cI cJ cZ l yX6_knowWays (.code yX6_knowWays cX6_knowWays 1 none :: gt) rm_X6_knowWays S [.ref (ad 0)] post := by
  refine enV (by decide) (Nat.le_of_ble_eq_true rfl) ?_
  intro p e s m below meth c A ls C0 hw hl
  have C0 : Cx p s m _ meth c cX6_knowWays 1 RX6 none D cI cJ cZ A := C0
  have hl : lv_has ls 1 [(0, .ref (ad 0))] := hl
  have hx := C0.1
  have hb := C0.2.1
  unfold wp_X6_knowWays at h
  refine lv_aload_n hx hb dX6_knowWays_0 rfl (lv_at hl 0 rfl) ?_
  refine gf_X6_waysKnown C0 hw dX6_knowWays_1 ?_
  refine lv_if_ne (tgt := 19) hx hb dX6_knowWays_4 (by decide) (fun c4 => ?_) (fun c4 => ?_)
  · have h := h.1 c4
    exact rtV C0 hw h dX6_knowWays_19
  · have h := h.2 c4
    refine lv_aload_n hx hb dX6_knowWays_7 rfl (lv_at hl 0 rfl) ?_
    refine gf_X6_ways C0 hw dX6_knowWays_8 ?_
    refine clVV (As := []) (rest := []) (ci := 4) (k := 14) C0 (m_X5_walk l D ad cI cJ cZ S _ h) cal_X5_walk kw_110 kw_109 kw_108 rfl rfl rfl rfl hl.1 rfl (Nat.le_of_ble_eq_true rfl) ⟨Nat.le_of_ble_eq_true rfl, Nat.le_of_ble_eq_true rfl⟩ rfl rfl dX6_knowWays_11 hw (fun S11 H locs h hw => ?_)
    replace h := h
    refine lv_aload_n hx hb dX6_knowWays_14 rfl (lv_at hl 0 rfl) ?_
    refine lv_iconst (v := 1) hx hb dX6_knowWays_15 (by decide) ?_
    refine pf_X6_waysKnown C0 hw (Or.inr rfl) dX6_knowWays_16 (fun H locs hw => ?_)
    obtain ⟨S_1, eS_1⟩ : ∃ z, z = sC_wK S11 (1 : Int32) := ⟨_, rfl⟩
    rw [← eS_1] at hw
    have h := h S_1 eS_1
    exact rtV C0 hw h dX6_knowWays_19
abbrev rm_X6_knowLeaves : Room := { frames := 3, cells := 0, slots := 0, locals := 75 }
set_option maxHeartbeats 4000000 in
set_option maxRecDepth 100000 in
theorem m_X6_knowLeaves (l : Launch) (D : va_G) (ad : Nat → Nat) (cI cJ cZ : ClassId) (S : CS)  (post : CS → Prop) (h : wp_X6_knowLeaves S  post) : CV (WC ad cI cJ cZ) D cI cJ cZ l yX6_knowLeaves (.code yX6_knowLeaves cX6_knowLeaves 1 none :: gt) rm_X6_knowLeaves S [.ref (ad 0)] post := by
  refine enV (by decide) (Nat.le_of_ble_eq_true rfl) ?_
  intro p e s m below meth c A ls C0 hw hl
  have C0 : Cx p s m _ meth c cX6_knowLeaves 1 RX6 none D cI cJ cZ A := C0
  have hl : lv_has ls 1 [(0, .ref (ad 0))] := hl
  have hx := C0.1
  have hb := C0.2.1
  unfold wp_X6_knowLeaves at h
  refine lv_aload_n hx hb dX6_knowLeaves_0 rfl (lv_at hl 0 rfl) ?_
  refine clVV (As := []) (rest := []) (ci := 5) (k := 0) C0 (m_X6_knowWays l D ad cI cJ cZ S _ h) cal_X6_knowWays kw_113 kw_112 kw_111 rfl rfl rfl rfl hl.1 rfl (Nat.le_of_ble_eq_true rfl) ⟨Nat.le_of_ble_eq_true rfl, Nat.le_of_ble_eq_true rfl⟩ rfl rfl dX6_knowLeaves_1 hw (fun S1 H locs h hw => ?_)
  replace h := h
  refine lv_aload_n hx hb dX6_knowLeaves_4 rfl (lv_at hl 0 rfl) ?_
  refine gf_X6_leavesKnown C0 hw dX6_knowLeaves_5 ?_
  refine lv_if_ne (tgt := 30) hx hb dX6_knowLeaves_8 (by decide) (fun c8 => ?_) (fun c8 => ?_)
  · have h := h.1 c8
    exact rtV C0 hw h dX6_knowLeaves_30
  · have h := h.2 c8
    refine lv_aload_n hx hb dX6_knowLeaves_11 rfl (lv_at hl 0 rfl) ?_
    refine gf_X6_leaves C0 hw dX6_knowLeaves_12 ?_
    refine lv_aload_n hx hb dX6_knowLeaves_15 rfl (lv_at hl 0 rfl) ?_
    refine gf_X6_variables C0 hw dX6_knowLeaves_16 ?_
    refine clVL (As := []) (rest := [.ref (ad 20)]) (ci := 3) (k := 1) C0 (m_X4_begun l D ad cI cJ cZ S1 _ h) cal_X4_begun kw_116 kw_115 kw_114 rfl rfl rfl rfl hl.1 rfl (Nat.le_of_ble_eq_true rfl) ⟨Nat.le_of_ble_eq_true rfl, Nat.le_of_ble_eq_true rfl⟩ rfl rfl dX6_knowLeaves_19 hw (fun r19 S19 H locs h hw => ?_)
    replace h := h
    refine clVV (As := [.long r19]) (rest := []) (ci := 1) (k := 20) C0 (m_X1_flow l D ad cI cJ cZ S19 r19 _ h) cal_X1_flow kw_141 kw_140 kw_139 rfl rfl rfl rfl hl.1 rfl (Nat.le_of_ble_eq_true rfl) ⟨Nat.le_of_ble_eq_true rfl, Nat.le_of_ble_eq_true rfl⟩ rfl rfl dX6_knowLeaves_22 hw (fun S22 H locs h hw => ?_)
    replace h := h
    refine lv_aload_n hx hb dX6_knowLeaves_25 rfl (lv_at hl 0 rfl) ?_
    refine lv_iconst (v := 1) hx hb dX6_knowLeaves_26 (by decide) ?_
    refine pf_X6_leavesKnown C0 hw (Or.inr rfl) dX6_knowLeaves_27 (fun H locs hw => ?_)
    obtain ⟨S_1, eS_1⟩ : ∃ z, z = sC_eK S22 (1 : Int32) := ⟨_, rfl⟩
    rw [← eS_1] at hw
    have h := h S_1 eS_1
    exact rtV C0 hw h dX6_knowLeaves_30
abbrev rm_X6_leastUnheld : Room := { frames := 2, cells := 0, slots := 0, locals := 42 }
set_option maxHeartbeats 4000000 in
set_option maxRecDepth 100000 in
theorem mb_X6_leastUnheld_2 {p : Program} {l : Launch} {e : Env} {s : State} {m : MethodId} {args : Array Value} {below : List Frame} {meth : Method} {c : Code} {D : va_G} {ad : Nat → Nat} {cI cJ cZ : ClassId} {A : Nat → Prop} {post : Int32 → CS → Prop} (C0 : Cx p s m args meth c cX6_leastUnheld 2 RX6 (some .int) D cI cJ cZ A) :
 ∀ (n : Nat) (x1 : Int32) (S : CS) (H : Heap) (locs : List Loc) (ls : Array Slot), wp_X6_leastUnheld_2 post n x1 S → Wd (WC ad cI cJ cZ) D A s.heap H locs S → lv_has ls 2 [(0, .ref (ad 0)), (1, .int x1)] → W p l e rm_X6_leastUnheld s m args below meth c H locs 0 0 (QI (WC ad cI cJ cZ) D A s args below post) (F0 m 2 ls []) := by
  have hx := C0.1
  have hb := C0.2.1
  intro n
  induction n with
  | zero => intro x1 S H locs ls h; exact h.elim
  | succ n ih =>
    intro x1 S H locs ls h hw hl
    replace h : ws_X6_leastUnheld_2 (wp_X6_leastUnheld_2  post n)  post x1 S := h
    unfold ws_X6_leastUnheld_2 at h
    refine lv_iload_n hx hb dX6_leastUnheld_2 rfl (lv_at hl 1 rfl) ?_
    refine lv_sipush (v := 150) hx hb dX6_leastUnheld_3 (by decide) ?_
    refine lv_icmp_ge (tgt := 30) hx hb dX6_leastUnheld_6 (by decide) (fun c6 => ?_) (fun c6 => ?_)
    · have h := h.1 c6
      refine lv_iconst (v := -1) hx hb dX6_leastUnheld_30 (by decide) ?_
      exact rtI C0 hw h dX6_leastUnheld_31
    · have h := h.2 c6
      refine lv_aload_n hx hb dX6_leastUnheld_9 rfl (lv_at hl 0 rfl) ?_
      refine gf_X6_leaves C0 hw dX6_leastUnheld_10 ?_
      refine lv_iload_n hx hb dX6_leastUnheld_13 rfl (lv_at hl 1 rfl) ?_
      refine clVL (As := [.int x1]) (rest := []) (ci := 1) (k := 20) C0 (m_X1_missing l D ad cI cJ cZ S x1 _ h) cal_X1_missing kw_153 kw_152 kw_151 rfl rfl rfl rfl hl.1 rfl (Nat.le_of_ble_eq_true rfl) ⟨Nat.le_of_ble_eq_true rfl, Nat.le_of_ble_eq_true rfl⟩ rfl rfl dX6_leastUnheld_14 hw (fun r14 S14 H locs h hw => ?_)
      replace h := h
      refine lv_lconst (v := 0) hx hb dX6_leastUnheld_17 (by decide) ?_
      refine W.lcmp hx hb dX6_leastUnheld_18 ?_
      refine lv_if_eq (tgt := 24) hx hb dX6_leastUnheld_19 (by decide) (fun c19 => ?_) (fun c19 => ?_)
      · have h := h.1 c19
        obtain ⟨x1_1, ex1_1⟩ : ∃ y : Int32, y = x1 + (1 : Int32) := ⟨_, rfl⟩
        refine lv_iinc (v := x1_1) (lv' := [(1, .int x1_1), (0, .ref (ad 0))]) hx hb dX6_leastUnheld_24 hl (k := 1) rfl (by rw [ex1_1]; rfl) (by decide) rfl (fun ls hl => ?_)
        have h := h x1_1 ex1_1
        refine lv_goto (tgt := 2) hx hb dX6_leastUnheld_27 (by decide) ?_
        replace hl := lv_sub hl [1, 0] rfl
        exact ih x1_1 S14 _ _ _ h hw hl
      · have h := h.2 c19
        refine lv_iload_n hx hb dX6_leastUnheld_22 rfl (lv_at hl 1 rfl) ?_
        exact rtI C0 hw h dX6_leastUnheld_23
set_option maxHeartbeats 4000000 in
set_option maxRecDepth 100000 in
theorem m_X6_leastUnheld (l : Launch) (D : va_G) (ad : Nat → Nat) (cI cJ cZ : ClassId) (S : CS)  (post : Int32 → CS → Prop) (h : wp_X6_leastUnheld S  post) : CI (WC ad cI cJ cZ) D cI cJ cZ l yX6_leastUnheld (.code yX6_leastUnheld cX6_leastUnheld 2 (some .int) :: gt) rm_X6_leastUnheld S [.ref (ad 0)] post := by
  refine enI (by decide) (Nat.le_of_ble_eq_true rfl) ?_
  intro p e s m below meth c A ls C0 hw hl
  have C0 : Cx p s m _ meth c cX6_leastUnheld 2 RX6 (some .int) D cI cJ cZ A := C0
  have hl : lv_has ls 2 [(0, .ref (ad 0))] := hl
  have hx := C0.1
  have hb := C0.2.1
  unfold wp_X6_leastUnheld at h
  refine lv_iconst (v := 0) hx hb dX6_leastUnheld_0 (by decide) ?_
  refine lv_istore_n (lv' := [(1, .int (0 : Int32)), (0, .ref (ad 0))]) hx hb dX6_leastUnheld_1 rfl hl (by decide) rfl (fun ls hl => ?_)
  replace hl := lv_sub hl [1, 0] rfl
  obtain ⟨n, h⟩ := h
  exact mb_X6_leastUnheld_2 C0 n (0 : Int32) S _ _ ls h hw hl
abbrev rm_X6_knowLoans : Room := { frames := 5, cells := 0, slots := 0, locals := 105 }
set_option maxHeartbeats 4000000 in
set_option maxRecDepth 100000 in
theorem m_X6_knowLoans (l : Launch) (D : va_G) (ad : Nat → Nat) (cI cJ cZ : ClassId) (S : CS)  (post : CS → Prop) (h : wp_X6_knowLoans S  post) : CV (WC ad cI cJ cZ) D cI cJ cZ l yX6_knowLoans (.code yX6_knowLoans cX6_knowLoans 1 none :: gt) rm_X6_knowLoans S [.ref (ad 0)] post := by
  refine enV (by decide) (Nat.le_of_ble_eq_true rfl) ?_
  intro p e s m below meth c A ls C0 hw hl
  have C0 : Cx p s m _ meth c cX6_knowLoans 1 RX6 none D cI cJ cZ A := C0
  have hl : lv_has ls 1 [(0, .ref (ad 0))] := hl
  have hx := C0.1
  have hb := C0.2.1
  unfold wp_X6_knowLoans at h
  refine lv_aload_n hx hb dX6_knowLoans_0 rfl (lv_at hl 0 rfl) ?_
  refine clVV (As := []) (rest := []) (ci := 5) (k := 0) C0 (m_X6_knowWays l D ad cI cJ cZ S _ h) cal_X6_knowWays kw_113 kw_112 kw_111 rfl rfl rfl rfl hl.1 rfl (Nat.le_of_ble_eq_true rfl) ⟨Nat.le_of_ble_eq_true rfl, Nat.le_of_ble_eq_true rfl⟩ rfl rfl dX6_knowLoans_1 hw (fun S1 H locs h hw => ?_)
  replace h := h
  refine lv_aload_n hx hb dX6_knowLoans_4 rfl (lv_at hl 0 rfl) ?_
  refine gf_X6_loansKnown C0 hw dX6_knowLoans_5 ?_
  refine lv_if_ne (tgt := 37) hx hb dX6_knowLoans_8 (by decide) (fun c8 => ?_) (fun c8 => ?_)
  · have h := h.1 c8
    exact rtV C0 hw h dX6_knowLoans_37
  · have h := h.2 c8
    refine lv_aload_n hx hb dX6_knowLoans_11 rfl (lv_at hl 0 rfl) ?_
    refine gf_X6_loans C0 hw dX6_knowLoans_12 ?_
    refine clVV (As := []) (rest := []) (ci := 2) (k := 24) C0 (m_X2_number l D ad cI cJ cZ S1 _ h) cal_X2_number kw_171 kw_170 kw_169 rfl rfl rfl rfl hl.1 rfl (Nat.le_of_ble_eq_true rfl) ⟨Nat.le_of_ble_eq_true rfl, Nat.le_of_ble_eq_true rfl⟩ rfl rfl dX6_knowLoans_15 hw (fun S15 H locs h hw => ?_)
    replace h := h
    refine lv_aload_n hx hb dX6_knowLoans_18 rfl (lv_at hl 0 rfl) ?_
    refine gf_X6_loans C0 hw dX6_knowLoans_19 ?_
    refine clVV (As := []) (rest := []) (ci := 2) (k := 24) C0 (m_X2_flowHoldings l D ad cI cJ cZ S15 _ h) cal_X2_flowHoldings kw_202 kw_201 kw_200 rfl rfl rfl rfl hl.1 rfl (Nat.le_of_ble_eq_true rfl) ⟨Nat.le_of_ble_eq_true rfl, Nat.le_of_ble_eq_true rfl⟩ rfl rfl dX6_knowLoans_22 hw (fun S22 H locs h hw => ?_)
    replace h := h
    refine lv_aload_n hx hb dX6_knowLoans_25 rfl (lv_at hl 0 rfl) ?_
    refine gf_X6_loans C0 hw dX6_knowLoans_26 ?_
    refine clVV (As := []) (rest := []) (ci := 2) (k := 24) C0 (m_X2_flowUses l D ad cI cJ cZ S22 _ h) cal_X2_flowUses kw_214 kw_213 kw_212 rfl rfl rfl rfl hl.1 rfl (Nat.le_of_ble_eq_true rfl) ⟨Nat.le_of_ble_eq_true rfl, Nat.le_of_ble_eq_true rfl⟩ rfl rfl dX6_knowLoans_29 hw (fun S29 H locs h hw => ?_)
    replace h := h
    refine lv_aload_n hx hb dX6_knowLoans_32 rfl (lv_at hl 0 rfl) ?_
    refine lv_iconst (v := 1) hx hb dX6_knowLoans_33 (by decide) ?_
    refine pf_X6_loansKnown C0 hw (Or.inr rfl) dX6_knowLoans_34 (fun H locs hw => ?_)
    obtain ⟨S_1, eS_1⟩ : ∃ z, z = sC_lK S29 (1 : Int32) := ⟨_, rfl⟩
    rw [← eS_1] at hw
    have h := h S_1 eS_1
    exact rtV C0 hw h dX6_knowLoans_37
abbrev rm_X6_leastClashing : Room := { frames := 4, cells := 0, slots := 0, locals := 89 }
set_option maxHeartbeats 4000000 in
set_option maxRecDepth 100000 in
theorem mb_X6_leastClashing_2 {p : Program} {l : Launch} {e : Env} {s : State} {m : MethodId} {args : Array Value} {below : List Frame} {meth : Method} {c : Code} {D : va_G} {ad : Nat → Nat} {cI cJ cZ : ClassId} {A : Nat → Prop} {post : Int32 → CS → Prop} (C0 : Cx p s m args meth c cX6_leastClashing 2 RX6 (some .int) D cI cJ cZ A) :
 ∀ (n : Nat) (x1 : Int32) (S : CS) (H : Heap) (locs : List Loc) (ls : Array Slot), wp_X6_leastClashing_2 post n x1 S → Wd (WC ad cI cJ cZ) D A s.heap H locs S → lv_has ls 2 [(0, .ref (ad 0)), (1, .int x1)] → W p l e rm_X6_leastClashing s m args below meth c H locs 0 0 (QI (WC ad cI cJ cZ) D A s args below post) (F0 m 2 ls []) := by
  have hx := C0.1
  have hb := C0.2.1
  intro n
  induction n with
  | zero => intro x1 S H locs ls h; exact h.elim
  | succ n ih =>
    intro x1 S H locs ls h hw hl
    replace h : ws_X6_leastClashing_2 (wp_X6_leastClashing_2  post n)  post x1 S := h
    unfold ws_X6_leastClashing_2 at h
    refine lv_iload_n hx hb dX6_leastClashing_2 rfl (lv_at hl 1 rfl) ?_
    refine lv_sipush (v := 150) hx hb dX6_leastClashing_3 (by decide) ?_
    refine lv_icmp_ge (tgt := 29) hx hb dX6_leastClashing_6 (by decide) (fun c6 => ?_) (fun c6 => ?_)
    · have h := h.1 c6
      refine lv_iconst (v := -1) hx hb dX6_leastClashing_29 (by decide) ?_
      exact rtI C0 hw h dX6_leastClashing_30
    · have h := h.2 c6
      refine lv_aload_n hx hb dX6_leastClashing_9 rfl (lv_at hl 0 rfl) ?_
      refine gf_X6_loans C0 hw dX6_leastClashing_10 ?_
      refine lv_iload_n hx hb dX6_leastClashing_13 rfl (lv_at hl 1 rfl) ?_
      refine clVI (As := [.int x1]) (rest := []) (ci := 2) (k := 24) C0 (m_X2_leastClash l D ad cI cJ cZ S x1 _ h) cal_X2_leastClash kw_234 kw_233 kw_232 rfl rfl rfl rfl hl.1 rfl (Nat.le_of_ble_eq_true rfl) ⟨Nat.le_of_ble_eq_true rfl, Nat.le_of_ble_eq_true rfl⟩ rfl rfl dX6_leastClashing_14 hw (fun r14 S14 H locs h hw => ?_)
      replace h := h
      refine lv_iconst (v := -1) hx hb dX6_leastClashing_17 (by decide) ?_
      refine lv_icmp_eq (tgt := 23) hx hb dX6_leastClashing_18 (by decide) (fun c18 => ?_) (fun c18 => ?_)
      · have h := h.1 c18
        obtain ⟨x1_1, ex1_1⟩ : ∃ y : Int32, y = x1 + (1 : Int32) := ⟨_, rfl⟩
        refine lv_iinc (v := x1_1) (lv' := [(1, .int x1_1), (0, .ref (ad 0))]) hx hb dX6_leastClashing_23 hl (k := 1) rfl (by rw [ex1_1]; rfl) (by decide) rfl (fun ls hl => ?_)
        have h := h x1_1 ex1_1
        refine lv_goto (tgt := 2) hx hb dX6_leastClashing_26 (by decide) ?_
        replace hl := lv_sub hl [1, 0] rfl
        exact ih x1_1 S14 _ _ _ h hw hl
      · have h := h.2 c18
        refine lv_iload_n hx hb dX6_leastClashing_21 rfl (lv_at hl 1 rfl) ?_
        exact rtI C0 hw h dX6_leastClashing_22
set_option maxHeartbeats 4000000 in
set_option maxRecDepth 100000 in
theorem m_X6_leastClashing (l : Launch) (D : va_G) (ad : Nat → Nat) (cI cJ cZ : ClassId) (S : CS)  (post : Int32 → CS → Prop) (h : wp_X6_leastClashing S  post) : CI (WC ad cI cJ cZ) D cI cJ cZ l yX6_leastClashing (.code yX6_leastClashing cX6_leastClashing 2 (some .int) :: gt) rm_X6_leastClashing S [.ref (ad 0)] post := by
  refine enI (by decide) (Nat.le_of_ble_eq_true rfl) ?_
  intro p e s m below meth c A ls C0 hw hl
  have C0 : Cx p s m _ meth c cX6_leastClashing 2 RX6 (some .int) D cI cJ cZ A := C0
  have hl : lv_has ls 2 [(0, .ref (ad 0))] := hl
  have hx := C0.1
  have hb := C0.2.1
  unfold wp_X6_leastClashing at h
  refine lv_iconst (v := 0) hx hb dX6_leastClashing_0 (by decide) ?_
  refine lv_istore_n (lv' := [(1, .int (0 : Int32)), (0, .ref (ad 0))]) hx hb dX6_leastClashing_1 rfl hl (by decide) rfl (fun ls hl => ?_)
  replace hl := lv_sub hl [1, 0] rfl
  obtain ⟨n, h⟩ := h
  exact mb_X6_leastClashing_2 C0 n (0 : Int32) S _ _ ls h hw hl
abbrev rm_X6_judge : Room := { frames := 6, cells := 0, slots := 0, locals := 125 }
set_option maxHeartbeats 4000000 in
set_option maxRecDepth 100000 in
theorem m_X6_judge (l : Launch) (D : va_G) (ad : Nat → Nat) (cI cJ cZ : ClassId) (S : CS)  (post : Int32 → CS → Prop) (h : wp_X6_judge S  post) : CI (WC ad cI cJ cZ) D cI cJ cZ l yX6_judge (.code yX6_judge cX6_judge 1 (some .int) :: gt) rm_X6_judge S [.ref (ad 0)] post := by
  refine enI (by decide) (Nat.le_of_ble_eq_true rfl) ?_
  intro p e s m below meth c A ls C0 hw hl
  have C0 : Cx p s m _ meth c cX6_judge 1 RX6 (some .int) D cI cJ cZ A := C0
  have hl : lv_has ls 1 [(0, .ref (ad 0))] := hl
  have hx := C0.1
  have hb := C0.2.1
  unfold wp_X6_judge at h
  refine lv_aload_n hx hb dX6_judge_0 rfl (lv_at hl 0 rfl) ?_
  refine clVV (As := []) (rest := []) (ci := 5) (k := 0) C0 (m_X6_knowLeaves l D ad cI cJ cZ S _ h) cal_X6_knowLeaves kw_144 kw_143 kw_142 rfl rfl rfl rfl hl.1 rfl (Nat.le_of_ble_eq_true rfl) ⟨Nat.le_of_ble_eq_true rfl, Nat.le_of_ble_eq_true rfl⟩ rfl rfl dX6_judge_1 hw (fun S1 H locs h hw => ?_)
  replace h := h
  refine lv_aload_n hx hb dX6_judge_4 rfl (lv_at hl 0 rfl) ?_
  refine clVI (As := []) (rest := []) (ci := 5) (k := 0) C0 (m_X6_leastUnheld l D ad cI cJ cZ S1 _ h) cal_X6_leastUnheld kw_156 kw_155 kw_154 rfl rfl rfl rfl hl.1 rfl (Nat.le_of_ble_eq_true rfl) ⟨Nat.le_of_ble_eq_true rfl, Nat.le_of_ble_eq_true rfl⟩ rfl rfl dX6_judge_5 hw (fun r5 S5 H locs h hw => ?_)
  replace h := h
  refine lv_iconst (v := -1) hx hb dX6_judge_8 (by decide) ?_
  refine lv_icmp_eq (tgt := 14) hx hb dX6_judge_9 (by decide) (fun c9 => ?_) (fun c9 => ?_)
  · have h := h.1 c9
    refine lv_aload_n hx hb dX6_judge_14 rfl (lv_at hl 0 rfl) ?_
    refine clVV (As := []) (rest := []) (ci := 5) (k := 0) C0 (m_X6_knowLoans l D ad cI cJ cZ S5 _ h) cal_X6_knowLoans kw_217 kw_216 kw_215 rfl rfl rfl rfl hl.1 rfl (Nat.le_of_ble_eq_true rfl) ⟨Nat.le_of_ble_eq_true rfl, Nat.le_of_ble_eq_true rfl⟩ rfl rfl dX6_judge_15 hw (fun S15 H locs h hw => ?_)
    replace h := h
    refine lv_aload_n hx hb dX6_judge_18 rfl (lv_at hl 0 rfl) ?_
    refine clVI (As := []) (rest := []) (ci := 5) (k := 0) C0 (m_X6_leastClashing l D ad cI cJ cZ S15 _ h) cal_X6_leastClashing kw_237 kw_236 kw_235 rfl rfl rfl rfl hl.1 rfl (Nat.le_of_ble_eq_true rfl) ⟨Nat.le_of_ble_eq_true rfl, Nat.le_of_ble_eq_true rfl⟩ rfl rfl dX6_judge_19 hw (fun r19 S19 H locs h hw => ?_)
    replace h := h
    refine lv_iconst (v := -1) hx hb dX6_judge_22 (by decide) ?_
    refine lv_icmp_eq (tgt := 30) hx hb dX6_judge_23 (by decide) (fun c23 => ?_) (fun c23 => ?_)
    · have h := h.1 c23
      refine lv_iconst (v := 0) hx hb dX6_judge_30 (by decide) ?_
      exact rtI C0 hw h dX6_judge_31
    · have h := h.2 c23
      refine lv_iconst (v := 4) hx hb dX6_judge_26 (by decide) ?_
      refine lv_goto (tgt := 31) hx hb dX6_judge_27 (by decide) ?_
      exact rtI C0 hw h dX6_judge_31
  · have h := h.2 c9
    refine lv_iconst (v := 3) hx hb dX6_judge_12 (by decide) ?_
    exact rtI C0 hw h dX6_judge_13
abbrev rm_X6_fault : Room := { frames := 6, cells := 0, slots := 0, locals := 125 }
set_option maxHeartbeats 4000000 in
set_option maxRecDepth 100000 in
theorem mb_X6_fault_12 {p : Program} {l : Launch} {e : Env} {s : State} {m : MethodId} {args : Array Value} {below : List Frame} {meth : Method} {c : Code} {D : va_G} {ad : Nat → Nat} {cI cJ cZ : ClassId} {A : Nat → Prop} {post : Int32 → CS → Prop} (C0 : Cx p s m args meth c cX6_fault 4 RX6 (some .int) D cI cJ cZ A) :
 ∀ (x1 : Int32) (S : CS) (H : Heap) (locs : List Loc) (ls : Array Slot), wp_X6_fault_12 post x1 S → Wd (WC ad cI cJ cZ) D A s.heap H locs S → lv_has ls 4 [(0, .ref (ad 0)), (1, .int x1)] → W p l e rm_X6_fault s m args below meth c H locs 0 0 (QI (WC ad cI cJ cZ) D A s args below post) (F0 m 12 ls []) := by
  have hx := C0.1
  have hb := C0.2.1
  intro x1 S H locs ls h hw hl
  unfold wp_X6_fault_12 at h
  refine lv_aload_n hx hb dX6_fault_12 rfl (lv_at hl 0 rfl) ?_
  refine clVV (As := []) (rest := []) (ci := 5) (k := 0) C0 (m_X6_knowLeaves l D ad cI cJ cZ S _ h) cal_X6_knowLeaves kw_144 kw_143 kw_142 rfl rfl rfl rfl hl.1 rfl (Nat.le_of_ble_eq_true rfl) ⟨Nat.le_of_ble_eq_true rfl, Nat.le_of_ble_eq_true rfl⟩ rfl rfl dX6_fault_13 hw (fun S13 H locs h hw => ?_)
  replace h := h
  refine lv_aload_n hx hb dX6_fault_16 rfl (lv_at hl 0 rfl) ?_
  refine clVI (As := []) (rest := []) (ci := 5) (k := 0) C0 (m_X6_leastUnheld l D ad cI cJ cZ S13 _ h) cal_X6_leastUnheld kw_156 kw_155 kw_154 rfl rfl rfl rfl hl.1 rfl (Nat.le_of_ble_eq_true rfl) ⟨Nat.le_of_ble_eq_true rfl, Nat.le_of_ble_eq_true rfl⟩ rfl rfl dX6_fault_17 hw (fun r17 S17 H locs h hw => ?_)
  replace h := h
  refine lv_istore_n (lv' := [(2, .int r17), (0, .ref (ad 0)), (1, .int x1)]) hx hb dX6_fault_20 rfl hl (by decide) rfl (fun ls hl => ?_)
  refine lv_iload_n hx hb dX6_fault_21 rfl (lv_at hl 0 rfl) ?_
  refine lv_iconst (v := -1) hx hb dX6_fault_22 (by decide) ?_
  refine lv_icmp_eq (tgt := 44) hx hb dX6_fault_23 (by decide) (fun c23 => ?_) (fun c23 => ?_)
  · have h := h.1 c23
    refine lv_aload_n hx hb dX6_fault_44 rfl (lv_at hl 1 rfl) ?_
    refine clVV (As := []) (rest := []) (ci := 5) (k := 0) C0 (m_X6_knowLoans l D ad cI cJ cZ S17 _ h) cal_X6_knowLoans kw_217 kw_216 kw_215 rfl rfl rfl rfl hl.1 rfl (Nat.le_of_ble_eq_true rfl) ⟨Nat.le_of_ble_eq_true rfl, Nat.le_of_ble_eq_true rfl⟩ rfl rfl dX6_fault_45 hw (fun S45 H locs h hw => ?_)
    replace h := h
    refine lv_aload_n hx hb dX6_fault_48 rfl (lv_at hl 1 rfl) ?_
    refine clVI (As := []) (rest := []) (ci := 5) (k := 0) C0 (m_X6_leastClashing l D ad cI cJ cZ S45 _ h) cal_X6_leastClashing kw_237 kw_236 kw_235 rfl rfl rfl rfl hl.1 rfl (Nat.le_of_ble_eq_true rfl) ⟨Nat.le_of_ble_eq_true rfl, Nat.le_of_ble_eq_true rfl⟩ rfl rfl dX6_fault_49 hw (fun r49 S49 H locs h hw => ?_)
    replace h := h
    refine lv_istore_n (lv' := [(3, .int r49), (2, .int r17), (0, .ref (ad 0)), (1, .int x1)]) hx hb dX6_fault_52 rfl hl (by decide) rfl (fun ls hl => ?_)
    refine lv_iload_n hx hb dX6_fault_53 rfl (lv_at hl 0 rfl) ?_
    refine lv_iconst (v := -1) hx hb dX6_fault_54 (by decide) ?_
    refine lv_icmp_ne (tgt := 60) hx hb dX6_fault_55 (by decide) (fun c55 => ?_) (fun c55 => ?_)
    · have h := h.1 c55
      refine lv_iload_n hx hb dX6_fault_60 rfl (lv_at hl 3 rfl) ?_
      refine lv_iconst (v := 1) hx hb dX6_fault_61 (by decide) ?_
      refine lv_icmp_ne (tgt := 69) hx hb dX6_fault_62 (by decide) (fun c62 => ?_) (fun c62 => ?_)
      · have h := h.1 c62
        refine lv_aload_n hx hb dX6_fault_69 rfl (lv_at hl 2 rfl) ?_
        refine gf_X6_loans C0 hw dX6_fault_70 ?_
        refine lv_iload_n hx hb dX6_fault_73 rfl (lv_at hl 0 rfl) ?_
        refine clVI (As := [.int r49]) (rest := []) (ci := 2) (k := 24) C0 (m_X2_leastClash l D ad cI cJ cZ S49 r49 _ h) cal_X2_leastClash kw_234 kw_233 kw_232 rfl rfl rfl rfl hl.1 rfl (Nat.le_of_ble_eq_true rfl) ⟨Nat.le_of_ble_eq_true rfl, Nat.le_of_ble_eq_true rfl⟩ rfl rfl dX6_fault_74 hw (fun r74 S74 H locs h hw => ?_)
        replace h := h
        exact rtI C0 hw h dX6_fault_77
      · have h := h.2 c62
        refine lv_iload_n hx hb dX6_fault_65 rfl (lv_at hl 0 rfl) ?_
        refine lv_goto (tgt := 77) hx hb dX6_fault_66 (by decide) ?_
        exact rtI C0 hw h dX6_fault_77
    · have h := h.2 c55
      refine lv_iconst (v := -1) hx hb dX6_fault_58 (by decide) ?_
      exact rtI C0 hw h dX6_fault_59
  · have h := h.2 c23
    refine lv_iload_n hx hb dX6_fault_26 rfl (lv_at hl 2 rfl) ?_
    refine lv_iconst (v := 1) hx hb dX6_fault_27 (by decide) ?_
    refine lv_icmp_ne (tgt := 35) hx hb dX6_fault_28 (by decide) (fun c28 => ?_) (fun c28 => ?_)
    · have h := h.1 c28
      refine lv_aload_n hx hb dX6_fault_35 rfl (lv_at hl 1 rfl) ?_
      refine gf_X6_leaves C0 hw dX6_fault_36 ?_
      refine lv_iload_n hx hb dX6_fault_39 rfl (lv_at hl 0 rfl) ?_
      refine clVI (As := [.int r17]) (rest := []) (ci := 1) (k := 20) C0 (m_X1_leastTaker l D ad cI cJ cZ S17 r17 _ h) cal_X1_leastTaker kw_249 kw_248 kw_247 rfl rfl rfl rfl hl.1 rfl (Nat.le_of_ble_eq_true rfl) ⟨Nat.le_of_ble_eq_true rfl, Nat.le_of_ble_eq_true rfl⟩ rfl rfl dX6_fault_40 hw (fun r40 S40 H locs h hw => ?_)
      replace h := h
      exact rtI C0 hw h dX6_fault_43
    · have h := h.2 c28
      refine lv_iload_n hx hb dX6_fault_31 rfl (lv_at hl 0 rfl) ?_
      refine lv_goto (tgt := 43) hx hb dX6_fault_32 (by decide) ?_
      exact rtI C0 hw h dX6_fault_43
set_option maxHeartbeats 4000000 in
set_option maxRecDepth 100000 in
theorem m_X6_fault (l : Launch) (D : va_G) (ad : Nat → Nat) (cI cJ cZ : ClassId) (S : CS) (x1 : Int32) (post : Int32 → CS → Prop) (h : wp_X6_fault S x1 post) : CI (WC ad cI cJ cZ) D cI cJ cZ l yX6_fault (.code yX6_fault cX6_fault 4 (some .int) :: gt) rm_X6_fault S [.ref (ad 0), .int x1] post := by
  refine enI (by decide) (Nat.le_of_ble_eq_true rfl) ?_
  intro p e s m below meth c A ls C0 hw hl
  have C0 : Cx p s m _ meth c cX6_fault 4 RX6 (some .int) D cI cJ cZ A := C0
  have hl : lv_has ls 4 [(0, .ref (ad 0)), (1, .int x1)] := hl
  have hx := C0.1
  have hb := C0.2.1
  unfold wp_X6_fault at h
  refine lv_iload_n hx hb dX6_fault_0 rfl (lv_at hl 1 rfl) ?_
  refine lv_iconst (v := 1) hx hb dX6_fault_1 (by decide) ?_
  refine lv_icmp_eq (tgt := 12) hx hb dX6_fault_2 (by decide) (fun c2 => ?_) (fun c2 => ?_)
  · have h := h.1 c2
    replace hl := lv_sub hl [0, 1] rfl
    exact mb_X6_fault_12 C0 x1 S _ _ ls h hw hl
  · have h := h.2 c2
    refine lv_iload_n hx hb dX6_fault_5 rfl (lv_at hl 1 rfl) ?_
    refine lv_iconst (v := 2) hx hb dX6_fault_6 (by decide) ?_
    refine lv_icmp_eq (tgt := 12) hx hb dX6_fault_7 (by decide) (fun c7 => ?_) (fun c7 => ?_)
    · have h := h.1 c7
      replace hl := lv_sub hl [0, 1] rfl
      exact mb_X6_fault_12 C0 x1 S _ _ ls h hw hl
    · have h := h.2 c7
      refine lv_iconst (v := -1) hx hb dX6_fault_10 (by decide) ?_
      exact rtI C0 hw h dX6_fault_11
abbrev rm_X6_comes : Room := { frames := 3, cells := 0, slots := 0, locals := 67 }
set_option maxHeartbeats 4000000 in
set_option maxRecDepth 100000 in
theorem m_X6_comes (l : Launch) (D : va_G) (ad : Nat → Nat) (cI cJ cZ : ClassId) (S : CS) (x1 : Int32) (post : Int32 → CS → Prop) (h : wp_X6_comes S x1 post) : CI (WC ad cI cJ cZ) D cI cJ cZ l yX6_comes (.code yX6_comes cX6_comes 2 (some .int) :: gt) rm_X6_comes S [.ref (ad 0), .int x1] post := by
  refine enI (by decide) (Nat.le_of_ble_eq_true rfl) ?_
  intro p e s m below meth c A ls C0 hw hl
  have C0 : Cx p s m _ meth c cX6_comes 2 RX6 (some .int) D cI cJ cZ A := C0
  have hl : lv_has ls 2 [(0, .ref (ad 0)), (1, .int x1)] := hl
  have hx := C0.1
  have hb := C0.2.1
  unfold wp_X6_comes at h
  refine lv_iload_n hx hb dX6_comes_0 rfl (lv_at hl 1 rfl) ?_
  refine clSI (As := [.int x1]) (rest := []) C0 (m_X6_isPoint l D ad cI cJ cZ S x1 _ h) cal_X6_isPoint kw_72 kw_71 rfl hl.1 rfl (Nat.le_of_ble_eq_true rfl) ⟨Nat.le_of_ble_eq_true rfl, Nat.le_of_ble_eq_true rfl⟩ rfl rfl dX6_comes_1 hw (fun r1 S1 H locs h hw => ?_)
  replace h := h
  refine lv_if_ne (tgt := 9) hx hb dX6_comes_4 (by decide) (fun c4 => ?_) (fun c4 => ?_)
  · have h := h.1 c4
    refine lv_aload_n hx hb dX6_comes_9 rfl (lv_at hl 0 rfl) ?_
    refine clVV (As := []) (rest := []) (ci := 5) (k := 0) C0 (m_X6_knowWays l D ad cI cJ cZ S1 _ h) cal_X6_knowWays kw_113 kw_112 kw_111 rfl rfl rfl rfl hl.1 rfl (Nat.le_of_ble_eq_true rfl) ⟨Nat.le_of_ble_eq_true rfl, Nat.le_of_ble_eq_true rfl⟩ rfl rfl dX6_comes_10 hw (fun S10 H locs h hw => ?_)
    replace h := h
    refine lv_aload_n hx hb dX6_comes_13 rfl (lv_at hl 0 rfl) ?_
    refine gf_X6_ways C0 hw dX6_comes_14 ?_
    refine lv_iload_n hx hb dX6_comes_17 rfl (lv_at hl 1 rfl) ?_
    refine clVI (As := [.int x1]) (rest := []) (ci := 4) (k := 14) C0 (m_X5_comeTo l D ad cI cJ cZ S10 x1 _ h) cal_X5_comeTo kw_147 kw_146 kw_250 rfl rfl rfl rfl hl.1 rfl (Nat.le_of_ble_eq_true rfl) ⟨Nat.le_of_ble_eq_true rfl, Nat.le_of_ble_eq_true rfl⟩ rfl rfl dX6_comes_18 hw (fun r18 S18 H locs h hw => ?_)
    replace h := h
    refine clSI (As := [.int r18]) (rest := []) C0 (m_X6_answer l D ad cI cJ cZ S18 r18 _ h) cal_X6_answer kw_28 kw_251 rfl hl.1 rfl (Nat.le_of_ble_eq_true rfl) ⟨Nat.le_of_ble_eq_true rfl, Nat.le_of_ble_eq_true rfl⟩ rfl rfl dX6_comes_21 hw (fun r21 S21 H locs h hw => ?_)
    replace h := h
    exact rtI C0 hw h dX6_comes_24
  · have h := h.2 c4
    refine lv_iconst (v := -1) hx hb dX6_comes_7 (by decide) ?_
    exact rtI C0 hw h dX6_comes_8
abbrev rm_X6_held : Room := { frames := 4, cells := 0, slots := 0, locals := 95 }
set_option maxHeartbeats 4000000 in
set_option maxRecDepth 100000 in
theorem m_X6_held (l : Launch) (D : va_G) (ad : Nat → Nat) (cI cJ cZ : ClassId) (S : CS) (x1 : Int32) (x2 : Int32) (x3 : Int32) (post : Int32 → CS → Prop) (h : wp_X6_held S x1 x2 x3 post) : CI (WC ad cI cJ cZ) D cI cJ cZ l yX6_held (.code yX6_held cX6_held 4 (some .int) :: gt) rm_X6_held S [.ref (ad 0), .int x1, .int x2, .int x3] post := by
  refine enI (by decide) (Nat.le_of_ble_eq_true rfl) ?_
  intro p e s m below meth c A ls C0 hw hl
  have C0 : Cx p s m _ meth c cX6_held 4 RX6 (some .int) D cI cJ cZ A := C0
  have hl : lv_has ls 4 [(0, .ref (ad 0)), (1, .int x1), (2, .int x2), (3, .int x3)] := hl
  have hx := C0.1
  have hb := C0.2.1
  unfold wp_X6_held at h
  refine lv_iload_n hx hb dX6_held_0 rfl (lv_at hl 1 rfl) ?_
  refine clSI (As := [.int x1]) (rest := []) C0 (m_X6_isPoint l D ad cI cJ cZ S x1 _ h) cal_X6_isPoint kw_72 kw_71 rfl hl.1 rfl (Nat.le_of_ble_eq_true rfl) ⟨Nat.le_of_ble_eq_true rfl, Nat.le_of_ble_eq_true rfl⟩ rfl rfl dX6_held_1 hw (fun r1 S1 H locs h hw => ?_)
  replace h := h
  refine lv_if_eq (tgt := 19) hx hb dX6_held_4 (by decide) (fun c4 => ?_) (fun c4 => ?_)
  · have h := h.1 c4
    refine lv_iconst (v := -1) hx hb dX6_held_19 (by decide) ?_
    exact rtI C0 hw h dX6_held_20
  · have h := h.2 c4
    refine lv_aload_n hx hb dX6_held_7 rfl (lv_at hl 0 rfl) ?_
    refine gf_X6_variables C0 hw dX6_held_8 ?_
    refine lv_iload_n hx hb dX6_held_11 rfl (lv_at hl 2 rfl) ?_
    refine lv_iload_n hx hb dX6_held_12 rfl (lv_at hl 3 rfl) ?_
    refine clVI (As := [.int x2, .int x3]) (rest := []) (ci := 3) (k := 1) C0 (m_X4_hasLeaf l D ad cI cJ cZ S1 x2 x3 _ h) cal_X4_hasLeaf kw_254 kw_253 kw_252 rfl rfl rfl rfl hl.1 rfl (Nat.le_of_ble_eq_true rfl) ⟨Nat.le_of_ble_eq_true rfl, Nat.le_of_ble_eq_true rfl⟩ rfl rfl dX6_held_13 hw (fun r13 S13 H locs h hw => ?_)
    replace h := h
    refine lv_if_ne (tgt := 21) hx hb dX6_held_16 (by decide) (fun c16 => ?_) (fun c16 => ?_)
    · have h := h.1 c16
      refine lv_aload_n hx hb dX6_held_21 rfl (lv_at hl 0 rfl) ?_
      refine clVV (As := []) (rest := []) (ci := 5) (k := 0) C0 (m_X6_knowLeaves l D ad cI cJ cZ S13 _ h) cal_X6_knowLeaves kw_144 kw_143 kw_142 rfl rfl rfl rfl hl.1 rfl (Nat.le_of_ble_eq_true rfl) ⟨Nat.le_of_ble_eq_true rfl, Nat.le_of_ble_eq_true rfl⟩ rfl rfl dX6_held_22 hw (fun S22 H locs h hw => ?_)
      replace h := h
      refine lv_aload_n hx hb dX6_held_25 rfl (lv_at hl 0 rfl) ?_
      refine gf_X6_ways C0 hw dX6_held_26 ?_
      refine lv_iload_n hx hb dX6_held_29 rfl (lv_at hl 1 rfl) ?_
      refine clVI (As := [.int x1]) (rest := []) (ci := 4) (k := 14) C0 (m_X5_comeTo l D ad cI cJ cZ S22 x1 _ h) cal_X5_comeTo kw_147 kw_146 kw_250 rfl rfl rfl rfl hl.1 rfl (Nat.le_of_ble_eq_true rfl) ⟨Nat.le_of_ble_eq_true rfl, Nat.le_of_ble_eq_true rfl⟩ rfl rfl dX6_held_30 hw (fun r30 S30 H locs h hw => ?_)
      replace h := h
      refine lv_if_eq (tgt := 52) hx hb dX6_held_33 (by decide) (fun c33 => ?_) (fun c33 => ?_)
      · have h := h.1 c33
        refine lv_iconst (v := -1) hx hb dX6_held_52 (by decide) ?_
        exact rtI C0 hw h dX6_held_53
      · have h := h.2 c33
        refine lv_aload_n hx hb dX6_held_36 rfl (lv_at hl 0 rfl) ?_
        refine gf_X6_leaves C0 hw dX6_held_37 ?_
        refine lv_iload_n hx hb dX6_held_40 rfl (lv_at hl 1 rfl) ?_
        refine lv_iload_n hx hb dX6_held_41 rfl (lv_at hl 2 rfl) ?_
        refine lv_iload_n hx hb dX6_held_42 rfl (lv_at hl 3 rfl) ?_
        refine clSL (As := [.int x2, .int x3]) (rest := [.int x1, .ref (ad 20)]) C0 (m_X6_leafBit l D ad cI cJ cZ S30 x2 x3 _ h) cal_X6_leafBit kw_20 kw_255 rfl hl.1 rfl (Nat.le_of_ble_eq_true rfl) ⟨Nat.le_of_ble_eq_true rfl, Nat.le_of_ble_eq_true rfl⟩ rfl rfl dX6_held_43 hw (fun r43 S43 H locs h hw => ?_)
        replace h := h
        refine clVI (As := [.int x1, .long r43]) (rest := []) (ci := 1) (k := 20) C0 (m_X1_state l D ad cI cJ cZ S43 x1 r43 _ h) cal_X1_state kw_258 kw_257 kw_256 rfl rfl rfl rfl hl.1 rfl (Nat.le_of_ble_eq_true rfl) ⟨Nat.le_of_ble_eq_true rfl, Nat.le_of_ble_eq_true rfl⟩ rfl rfl dX6_held_46 hw (fun r46 S46 H locs h hw => ?_)
        replace h := h
        refine lv_goto (tgt := 53) hx hb dX6_held_49 (by decide) ?_
        exact rtI C0 hw h dX6_held_53
    · have h := h.2 c16
      refine lv_iconst (v := -1) hx hb dX6_held_19 (by decide) ?_
      exact rtI C0 hw h dX6_held_20
abbrev rm_X6_isLoan : Room := { frames := 3, cells := 0, slots := 0, locals := 63 }
set_option maxHeartbeats 4000000 in
set_option maxRecDepth 100000 in
theorem m_X6_isLoan (l : Launch) (D : va_G) (ad : Nat → Nat) (cI cJ cZ : ClassId) (S : CS) (x1 : Int32) (post : Int32 → CS → Prop) (h : wp_X6_isLoan S x1 post) : CI (WC ad cI cJ cZ) D cI cJ cZ l yX6_isLoan (.code yX6_isLoan cX6_isLoan 2 (some .boolean) :: gt) rm_X6_isLoan S [.ref (ad 0), .int x1] post := by
  refine enI (by decide) (Nat.le_of_ble_eq_true rfl) ?_
  intro p e s m below meth c A ls C0 hw hl
  have C0 : Cx p s m _ meth c cX6_isLoan 2 RX6 (some .boolean) D cI cJ cZ A := C0
  have hl : lv_has ls 2 [(0, .ref (ad 0)), (1, .int x1)] := hl
  have hx := C0.1
  have hb := C0.2.1
  unfold wp_X6_isLoan at h
  refine lv_iload_n hx hb dX6_isLoan_0 rfl (lv_at hl 1 rfl) ?_
  refine clSI (As := [.int x1]) (rest := []) C0 (m_X6_isPoint l D ad cI cJ cZ S x1 _ h) cal_X6_isPoint kw_72 kw_71 rfl hl.1 rfl (Nat.le_of_ble_eq_true rfl) ⟨Nat.le_of_ble_eq_true rfl, Nat.le_of_ble_eq_true rfl⟩ rfl rfl dX6_isLoan_1 hw (fun r1 S1 H locs h hw => ?_)
  replace h := h
  refine lv_if_eq (tgt := 22) hx hb dX6_isLoan_4 (by decide) (fun c4 => ?_) (fun c4 => ?_)
  · have h := h.1 c4
    refine lv_iconst (v := 0) hx hb dX6_isLoan_22 (by decide) ?_
    exact rtZ C0 hw rfl h dX6_isLoan_23
  · have h := h.2 c4
    refine lv_aload_n hx hb dX6_isLoan_7 rfl (lv_at hl 0 rfl) ?_
    refine gf_X6_acts C0 hw dX6_isLoan_8 ?_
    refine lv_iload_n hx hb dX6_isLoan_11 rfl (lv_at hl 1 rfl) ?_
    refine clVI (As := [.int x1]) (rest := []) (ci := 0) (k := 4) C0 (m_X0_makesLoan l D ad cI cJ cZ S1 x1 _ h) cal_X0_makesLoan kw_160 kw_159 kw_260 rfl rfl rfl rfl hl.1 rfl (Nat.le_of_ble_eq_true rfl) ⟨Nat.le_of_ble_eq_true rfl, Nat.le_of_ble_eq_true rfl⟩ rfl rfl dX6_isLoan_12 hw (fun r12 S12 H locs h hw => ?_)
    replace h := h
    refine lv_if_eq (tgt := 22) hx hb dX6_isLoan_15 (by decide) (fun c15 => ?_) (fun c15 => ?_)
    · have h := h.1 c15
      refine lv_iconst (v := 0) hx hb dX6_isLoan_22 (by decide) ?_
      exact rtZ C0 hw rfl h dX6_isLoan_23
    · have h := h.2 c15
      refine lv_iconst (v := 1) hx hb dX6_isLoan_18 (by decide) ?_
      refine lv_goto (tgt := 23) hx hb dX6_isLoan_19 (by decide) ?_
      exact rtZ C0 hw rfl h dX6_isLoan_23
abbrev rm_X6_holds : Room := { frames := 6, cells := 0, slots := 0, locals := 125 }
set_option maxHeartbeats 4000000 in
set_option maxRecDepth 100000 in
theorem m_X6_holds (l : Launch) (D : va_G) (ad : Nat → Nat) (cI cJ cZ : ClassId) (S : CS) (x1 : Int32) (x2 : Int32) (x3 : Int32) (post : Int32 → CS → Prop) (h : wp_X6_holds S x1 x2 x3 post) : CI (WC ad cI cJ cZ) D cI cJ cZ l yX6_holds (.code yX6_holds cX6_holds 4 (some .int) :: gt) rm_X6_holds S [.ref (ad 0), .int x1, .int x2, .int x3] post := by
  refine enI (by decide) (Nat.le_of_ble_eq_true rfl) ?_
  intro p e s m below meth c A ls C0 hw hl
  have C0 : Cx p s m _ meth c cX6_holds 4 RX6 (some .int) D cI cJ cZ A := C0
  have hl : lv_has ls 4 [(0, .ref (ad 0)), (1, .int x1), (2, .int x2), (3, .int x3)] := hl
  have hx := C0.1
  have hb := C0.2.1
  unfold wp_X6_holds at h
  refine lv_iload_n hx hb dX6_holds_0 rfl (lv_at hl 1 rfl) ?_
  refine clSI (As := [.int x1]) (rest := []) C0 (m_X6_isPoint l D ad cI cJ cZ S x1 _ h) cal_X6_isPoint kw_72 kw_71 rfl hl.1 rfl (Nat.le_of_ble_eq_true rfl) ⟨Nat.le_of_ble_eq_true rfl, Nat.le_of_ble_eq_true rfl⟩ rfl rfl dX6_holds_1 hw (fun r1 S1 H locs h hw => ?_)
  replace h := h
  refine lv_if_eq (tgt := 26) hx hb dX6_holds_4 (by decide) (fun c4 => ?_) (fun c4 => ?_)
  · have h := h.1 c4
    refine lv_iconst (v := -1) hx hb dX6_holds_26 (by decide) ?_
    exact rtI C0 hw h dX6_holds_27
  · have h := h.2 c4
    refine lv_aload_n hx hb dX6_holds_7 rfl (lv_at hl 0 rfl) ?_
    refine gf_X6_variables C0 hw dX6_holds_8 ?_
    refine lv_iload_n hx hb dX6_holds_11 rfl (lv_at hl 2 rfl) ?_
    refine clVI (As := [.int x2]) (rest := []) (ci := 3) (k := 1) C0 (m_X4_isReference l D ad cI cJ cZ S1 x2 _ h) cal_X4_isReference kw_51 kw_50 kw_259 rfl rfl rfl rfl hl.1 rfl (Nat.le_of_ble_eq_true rfl) ⟨Nat.le_of_ble_eq_true rfl, Nat.le_of_ble_eq_true rfl⟩ rfl rfl dX6_holds_12 hw (fun r12 S12 H locs h hw => ?_)
    replace h := h
    refine lv_if_eq (tgt := 26) hx hb dX6_holds_15 (by decide) (fun c15 => ?_) (fun c15 => ?_)
    · have h := h.1 c15
      refine lv_iconst (v := -1) hx hb dX6_holds_26 (by decide) ?_
      exact rtI C0 hw h dX6_holds_27
    · have h := h.2 c15
      refine lv_aload_n hx hb dX6_holds_18 rfl (lv_at hl 0 rfl) ?_
      refine lv_iload_n hx hb dX6_holds_19 rfl (lv_at hl 3 rfl) ?_
      refine clVI (As := [.int x3]) (rest := []) (ci := 5) (k := 0) C0 (m_X6_isLoan l D ad cI cJ cZ S12 x3 _ h) cal_X6_isLoan kw_263 kw_262 kw_261 rfl rfl rfl rfl hl.1 rfl (Nat.le_of_ble_eq_true rfl) ⟨Nat.le_of_ble_eq_true rfl, Nat.le_of_ble_eq_true rfl⟩ rfl rfl dX6_holds_20 hw (fun r20 S20 H locs h hw => ?_)
      replace h := h
      refine lv_if_ne (tgt := 28) hx hb dX6_holds_23 (by decide) (fun c23 => ?_) (fun c23 => ?_)
      · have h := h.1 c23
        refine lv_aload_n hx hb dX6_holds_28 rfl (lv_at hl 0 rfl) ?_
        refine clVV (As := []) (rest := []) (ci := 5) (k := 0) C0 (m_X6_knowLoans l D ad cI cJ cZ S20 _ h) cal_X6_knowLoans kw_217 kw_216 kw_215 rfl rfl rfl rfl hl.1 rfl (Nat.le_of_ble_eq_true rfl) ⟨Nat.le_of_ble_eq_true rfl, Nat.le_of_ble_eq_true rfl⟩ rfl rfl dX6_holds_29 hw (fun S29 H locs h hw => ?_)
        replace h := h
        refine lv_aload_n hx hb dX6_holds_32 rfl (lv_at hl 0 rfl) ?_
        refine gf_X6_loans C0 hw dX6_holds_33 ?_
        refine lv_iload_n hx hb dX6_holds_36 rfl (lv_at hl 1 rfl) ?_
        refine lv_iload_n hx hb dX6_holds_37 rfl (lv_at hl 2 rfl) ?_
        refine lv_iload_n hx hb dX6_holds_38 rfl (lv_at hl 3 rfl) ?_
        refine clVI (As := [.int x1, .int x2, .int x3]) (rest := []) (ci := 2) (k := 24) C0 (m_X2_isHeldBy l D ad cI cJ cZ S29 x1 x2 x3 _ h) cal_X2_isHeldBy kw_266 kw_265 kw_264 rfl rfl rfl rfl hl.1 rfl (Nat.le_of_ble_eq_true rfl) ⟨Nat.le_of_ble_eq_true rfl, Nat.le_of_ble_eq_true rfl⟩ rfl rfl dX6_holds_39 hw (fun r39 S39 H locs h hw => ?_)
        replace h := h
        refine clSI (As := [.int r39]) (rest := []) C0 (m_X6_answer l D ad cI cJ cZ S39 r39 _ h) cal_X6_answer kw_28 kw_251 rfl hl.1 rfl (Nat.le_of_ble_eq_true rfl) ⟨Nat.le_of_ble_eq_true rfl, Nat.le_of_ble_eq_true rfl⟩ rfl rfl dX6_holds_42 hw (fun r42 S42 H locs h hw => ?_)
        replace h := h
        exact rtI C0 hw h dX6_holds_45
      · have h := h.2 c23
        refine lv_iconst (v := -1) hx hb dX6_holds_26 (by decide) ?_
        exact rtI C0 hw h dX6_holds_27
abbrev rm_X6_used : Room := { frames := 6, cells := 0, slots := 0, locals := 125 }
set_option maxHeartbeats 4000000 in
set_option maxRecDepth 100000 in
theorem m_X6_used (l : Launch) (D : va_G) (ad : Nat → Nat) (cI cJ cZ : ClassId) (S : CS) (x1 : Int32) (x2 : Int32) (post : Int32 → CS → Prop) (h : wp_X6_used S x1 x2 post) : CI (WC ad cI cJ cZ) D cI cJ cZ l yX6_used (.code yX6_used cX6_used 3 (some .int) :: gt) rm_X6_used S [.ref (ad 0), .int x1, .int x2] post := by
  refine enI (by decide) (Nat.le_of_ble_eq_true rfl) ?_
  intro p e s m below meth c A ls C0 hw hl
  have C0 : Cx p s m _ meth c cX6_used 3 RX6 (some .int) D cI cJ cZ A := C0
  have hl : lv_has ls 3 [(0, .ref (ad 0)), (1, .int x1), (2, .int x2)] := hl
  have hx := C0.1
  have hb := C0.2.1
  unfold wp_X6_used at h
  refine lv_iload_n hx hb dX6_used_0 rfl (lv_at hl 1 rfl) ?_
  refine clSI (As := [.int x1]) (rest := []) C0 (m_X6_isPoint l D ad cI cJ cZ S x1 _ h) cal_X6_isPoint kw_72 kw_71 rfl hl.1 rfl (Nat.le_of_ble_eq_true rfl) ⟨Nat.le_of_ble_eq_true rfl, Nat.le_of_ble_eq_true rfl⟩ rfl rfl dX6_used_1 hw (fun r1 S1 H locs h hw => ?_)
  replace h := h
  refine lv_if_eq (tgt := 18) hx hb dX6_used_4 (by decide) (fun c4 => ?_) (fun c4 => ?_)
  · have h := h.1 c4
    refine lv_iconst (v := -1) hx hb dX6_used_18 (by decide) ?_
    exact rtI C0 hw h dX6_used_19
  · have h := h.2 c4
    refine lv_aload_n hx hb dX6_used_7 rfl (lv_at hl 0 rfl) ?_
    refine gf_X6_variables C0 hw dX6_used_8 ?_
    refine lv_iload_n hx hb dX6_used_11 rfl (lv_at hl 2 rfl) ?_
    refine clVI (As := [.int x2]) (rest := []) (ci := 3) (k := 1) C0 (m_X4_isReference l D ad cI cJ cZ S1 x2 _ h) cal_X4_isReference kw_51 kw_50 kw_259 rfl rfl rfl rfl hl.1 rfl (Nat.le_of_ble_eq_true rfl) ⟨Nat.le_of_ble_eq_true rfl, Nat.le_of_ble_eq_true rfl⟩ rfl rfl dX6_used_12 hw (fun r12 S12 H locs h hw => ?_)
    replace h := h
    refine lv_if_ne (tgt := 20) hx hb dX6_used_15 (by decide) (fun c15 => ?_) (fun c15 => ?_)
    · have h := h.1 c15
      refine lv_aload_n hx hb dX6_used_20 rfl (lv_at hl 0 rfl) ?_
      refine clVV (As := []) (rest := []) (ci := 5) (k := 0) C0 (m_X6_knowLoans l D ad cI cJ cZ S12 _ h) cal_X6_knowLoans kw_217 kw_216 kw_215 rfl rfl rfl rfl hl.1 rfl (Nat.le_of_ble_eq_true rfl) ⟨Nat.le_of_ble_eq_true rfl, Nat.le_of_ble_eq_true rfl⟩ rfl rfl dX6_used_21 hw (fun S21 H locs h hw => ?_)
      replace h := h
      refine lv_aload_n hx hb dX6_used_24 rfl (lv_at hl 0 rfl) ?_
      refine gf_X6_loans C0 hw dX6_used_25 ?_
      refine lv_iload_n hx hb dX6_used_28 rfl (lv_at hl 1 rfl) ?_
      refine lv_iload_n hx hb dX6_used_29 rfl (lv_at hl 2 rfl) ?_
      refine clVI (As := [.int x1, .int x2]) (rest := []) (ci := 2) (k := 24) C0 (m_X2_isUsedBehind l D ad cI cJ cZ S21 x1 x2 _ h) cal_X2_isUsedBehind kw_269 kw_268 kw_267 rfl rfl rfl rfl hl.1 rfl (Nat.le_of_ble_eq_true rfl) ⟨Nat.le_of_ble_eq_true rfl, Nat.le_of_ble_eq_true rfl⟩ rfl rfl dX6_used_30 hw (fun r30 S30 H locs h hw => ?_)
      replace h := h
      refine clSI (As := [.int r30]) (rest := []) C0 (m_X6_answer l D ad cI cJ cZ S30 r30 _ h) cal_X6_answer kw_28 kw_251 rfl hl.1 rfl (Nat.le_of_ble_eq_true rfl) ⟨Nat.le_of_ble_eq_true rfl, Nat.le_of_ble_eq_true rfl⟩ rfl rfl dX6_used_33 hw (fun r33 S33 H locs h hw => ?_)
      replace h := h
      exact rtI C0 hw h dX6_used_36
    · have h := h.2 c15
      refine lv_iconst (v := -1) hx hb dX6_used_18 (by decide) ?_
      exact rtI C0 hw h dX6_used_19
abbrev rm_X6_force : Room := { frames := 6, cells := 0, slots := 0, locals := 125 }
set_option maxHeartbeats 4000000 in
set_option maxRecDepth 100000 in
theorem m_X6_force (l : Launch) (D : va_G) (ad : Nat → Nat) (cI cJ cZ : ClassId) (S : CS) (x1 : Int32) (x2 : Int32) (post : Int32 → CS → Prop) (h : wp_X6_force S x1 x2 post) : CI (WC ad cI cJ cZ) D cI cJ cZ l yX6_force (.code yX6_force cX6_force 3 (some .int) :: gt) rm_X6_force S [.ref (ad 0), .int x1, .int x2] post := by
  refine enI (by decide) (Nat.le_of_ble_eq_true rfl) ?_
  intro p e s m below meth c A ls C0 hw hl
  have C0 : Cx p s m _ meth c cX6_force 3 RX6 (some .int) D cI cJ cZ A := C0
  have hl : lv_has ls 3 [(0, .ref (ad 0)), (1, .int x1), (2, .int x2)] := hl
  have hx := C0.1
  have hb := C0.2.1
  unfold wp_X6_force at h
  refine lv_iload_n hx hb dX6_force_0 rfl (lv_at hl 2 rfl) ?_
  refine clSI (As := [.int x2]) (rest := []) C0 (m_X6_isPoint l D ad cI cJ cZ S x2 _ h) cal_X6_isPoint kw_72 kw_71 rfl hl.1 rfl (Nat.le_of_ble_eq_true rfl) ⟨Nat.le_of_ble_eq_true rfl, Nat.le_of_ble_eq_true rfl⟩ rfl rfl dX6_force_1 hw (fun r1 S1 H locs h hw => ?_)
  replace h := h
  refine lv_if_eq (tgt := 15) hx hb dX6_force_4 (by decide) (fun c4 => ?_) (fun c4 => ?_)
  · have h := h.1 c4
    refine lv_iconst (v := -1) hx hb dX6_force_15 (by decide) ?_
    exact rtI C0 hw h dX6_force_16
  · have h := h.2 c4
    refine lv_aload_n hx hb dX6_force_7 rfl (lv_at hl 0 rfl) ?_
    refine lv_iload_n hx hb dX6_force_8 rfl (lv_at hl 1 rfl) ?_
    refine clVI (As := [.int x1]) (rest := []) (ci := 5) (k := 0) C0 (m_X6_isLoan l D ad cI cJ cZ S1 x1 _ h) cal_X6_isLoan kw_263 kw_262 kw_261 rfl rfl rfl rfl hl.1 rfl (Nat.le_of_ble_eq_true rfl) ⟨Nat.le_of_ble_eq_true rfl, Nat.le_of_ble_eq_true rfl⟩ rfl rfl dX6_force_9 hw (fun r9 S9 H locs h hw => ?_)
    replace h := h
    refine lv_if_ne (tgt := 17) hx hb dX6_force_12 (by decide) (fun c12 => ?_) (fun c12 => ?_)
    · have h := h.1 c12
      refine lv_aload_n hx hb dX6_force_17 rfl (lv_at hl 0 rfl) ?_
      refine clVV (As := []) (rest := []) (ci := 5) (k := 0) C0 (m_X6_knowLoans l D ad cI cJ cZ S9 _ h) cal_X6_knowLoans kw_217 kw_216 kw_215 rfl rfl rfl rfl hl.1 rfl (Nat.le_of_ble_eq_true rfl) ⟨Nat.le_of_ble_eq_true rfl, Nat.le_of_ble_eq_true rfl⟩ rfl rfl dX6_force_18 hw (fun S18 H locs h hw => ?_)
      replace h := h
      refine lv_aload_n hx hb dX6_force_21 rfl (lv_at hl 0 rfl) ?_
      refine gf_X6_loans C0 hw dX6_force_22 ?_
      refine lv_iload_n hx hb dX6_force_25 rfl (lv_at hl 1 rfl) ?_
      refine lv_iload_n hx hb dX6_force_26 rfl (lv_at hl 2 rfl) ?_
      refine clVI (As := [.int x1, .int x2]) (rest := []) (ci := 2) (k := 24) C0 (m_X2_isInForce l D ad cI cJ cZ S18 x1 x2 _ h) cal_X2_isInForce kw_272 kw_271 kw_270 rfl rfl rfl rfl hl.1 rfl (Nat.le_of_ble_eq_true rfl) ⟨Nat.le_of_ble_eq_true rfl, Nat.le_of_ble_eq_true rfl⟩ rfl rfl dX6_force_27 hw (fun r27 S27 H locs h hw => ?_)
      replace h := h
      refine clSI (As := [.int r27]) (rest := []) C0 (m_X6_answer l D ad cI cJ cZ S27 r27 _ h) cal_X6_answer kw_28 kw_251 rfl hl.1 rfl (Nat.le_of_ble_eq_true rfl) ⟨Nat.le_of_ble_eq_true rfl, Nat.le_of_ble_eq_true rfl⟩ rfl rfl dX6_force_30 hw (fun r30 S30 H locs h hw => ?_)
      replace h := h
      exact rtI C0 hw h dX6_force_33
    · have h := h.2 c12
      refine lv_iconst (v := -1) hx hb dX6_force_15 (by decide) ?_
      exact rtI C0 hw h dX6_force_16
abbrev rm_X6_countInForce : Room := { frames := 2, cells := 0, slots := 0, locals := 46 }
set_option maxHeartbeats 4000000 in
set_option maxRecDepth 100000 in
theorem mb_X6_countInForce_4 {p : Program} {l : Launch} {e : Env} {s : State} {m : MethodId} {args : Array Value} {below : List Frame} {meth : Method} {c : Code} {D : va_G} {ad : Nat → Nat} {cI cJ cZ : ClassId} {A : Nat → Prop} {post : Int32 → CS → Prop} (C0 : Cx p s m args meth c cX6_countInForce 3 RX6 (some .int) D cI cJ cZ A) :
 ∀ (n : Nat) (x1 : Int32) (x2 : Int32) (S : CS) (H : Heap) (locs : List Loc) (ls : Array Slot), wp_X6_countInForce_4 post n x1 x2 S → Wd (WC ad cI cJ cZ) D A s.heap H locs S → lv_has ls 3 [(0, .ref (ad 0)), (1, .int x1), (2, .int x2)] → W p l e rm_X6_countInForce s m args below meth c H locs 0 0 (QI (WC ad cI cJ cZ) D A s args below post) (F0 m 4 ls []) := by
  have hx := C0.1
  have hb := C0.2.1
  intro n
  induction n with
  | zero => intro x1 x2 S H locs ls h; exact h.elim
  | succ n ih =>
    intro x1 x2 S H locs ls h hw hl
    replace h : ws_X6_countInForce_4 (wp_X6_countInForce_4  post n)  post x1 x2 S := h
    unfold ws_X6_countInForce_4 at h
    refine lv_iload_n hx hb dX6_countInForce_4 rfl (lv_at hl 2 rfl) ?_
    refine lv_sipush (v := 150) hx hb dX6_countInForce_5 (by decide) ?_
    refine lv_icmp_ge (tgt := 31) hx hb dX6_countInForce_8 (by decide) (fun c8 => ?_) (fun c8 => ?_)
    · have h := h.1 c8
      refine lv_iload_n hx hb dX6_countInForce_31 rfl (lv_at hl 1 rfl) ?_
      exact rtI C0 hw h dX6_countInForce_32
    · have h := h.2 c8
      refine lv_iload_n hx hb dX6_countInForce_11 rfl (lv_at hl 1 rfl) ?_
      refine lv_aload_n hx hb dX6_countInForce_12 rfl (lv_at hl 0 rfl) ?_
      refine gf_X6_loans C0 hw dX6_countInForce_13 ?_
      refine lv_iload_n hx hb dX6_countInForce_16 rfl (lv_at hl 2 rfl) ?_
      refine clVL (As := [.int x2]) (rest := [.int x1]) (ci := 2) (k := 24) C0 (m_X2_inForce l D ad cI cJ cZ S x2 _ h) cal_X2_inForce kw_228 kw_227 kw_278 rfl rfl rfl rfl hl.1 rfl (Nat.le_of_ble_eq_true rfl) ⟨Nat.le_of_ble_eq_true rfl, Nat.le_of_ble_eq_true rfl⟩ rfl rfl dX6_countInForce_17 hw (fun r17 S17 H locs h hw => ?_)
      replace h := h
      refine clSI (As := [.long r17]) (rest := [.int x1]) C0 (m_J13_bitCount_95d88 l D ad cI cJ cZ S17 r17 _ h) cal_J13_bitCount_95d88 kw_283 kw_282 rfl hl.1 rfl (Nat.le_of_ble_eq_true rfl) ⟨Nat.le_of_ble_eq_true rfl, Nat.le_of_ble_eq_true rfl⟩ rfl rfl dX6_countInForce_20 hw (fun r20 S20 H locs h hw => ?_)
      replace h := h
      refine lv_iadd hx hb dX6_countInForce_23 ?_
      refine lv_topi (fun x1_1 ex1_1 => ?_)
      have h := h x1_1 ex1_1
      refine lv_istore_n (lv' := [(1, .int x1_1), (0, .ref (ad 0)), (2, .int x2)]) hx hb dX6_countInForce_24 rfl hl (by decide) rfl (fun ls hl => ?_)
      obtain ⟨x2_2, ex2_2⟩ : ∃ y : Int32, y = x2 + (1 : Int32) := ⟨_, rfl⟩
      refine lv_iinc (v := x2_2) (lv' := [(2, .int x2_2), (1, .int x1_1), (0, .ref (ad 0))]) hx hb dX6_countInForce_25 hl (k := 2) rfl (by rw [ex2_2]; rfl) (by decide) rfl (fun ls hl => ?_)
      have h := h x2_2 ex2_2
      refine lv_goto (tgt := 4) hx hb dX6_countInForce_28 (by decide) ?_
      replace hl := lv_sub hl [2, 1, 0] rfl
      exact ih x1_1 x2_2 S20 _ _ _ h hw hl
set_option maxHeartbeats 4000000 in
set_option maxRecDepth 100000 in
theorem m_X6_countInForce (l : Launch) (D : va_G) (ad : Nat → Nat) (cI cJ cZ : ClassId) (S : CS)  (post : Int32 → CS → Prop) (h : wp_X6_countInForce S  post) : CI (WC ad cI cJ cZ) D cI cJ cZ l yX6_countInForce (.code yX6_countInForce cX6_countInForce 3 (some .int) :: gt) rm_X6_countInForce S [.ref (ad 0)] post := by
  refine enI (by decide) (Nat.le_of_ble_eq_true rfl) ?_
  intro p e s m below meth c A ls C0 hw hl
  have C0 : Cx p s m _ meth c cX6_countInForce 3 RX6 (some .int) D cI cJ cZ A := C0
  have hl : lv_has ls 3 [(0, .ref (ad 0))] := hl
  have hx := C0.1
  have hb := C0.2.1
  unfold wp_X6_countInForce at h
  refine lv_iconst (v := 0) hx hb dX6_countInForce_0 (by decide) ?_
  refine lv_istore_n (lv' := [(1, .int (0 : Int32)), (0, .ref (ad 0))]) hx hb dX6_countInForce_1 rfl hl (by decide) rfl (fun ls hl => ?_)
  refine lv_iconst (v := 0) hx hb dX6_countInForce_2 (by decide) ?_
  refine lv_istore_n (lv' := [(2, .int (0 : Int32)), (1, .int (0 : Int32)), (0, .ref (ad 0))]) hx hb dX6_countInForce_3 rfl hl (by decide) rfl (fun ls hl => ?_)
  replace hl := lv_sub hl [2, 1, 0] rfl
  obtain ⟨n, h⟩ := h
  exact mb_X6_countInForce_4 C0 n (0 : Int32) (0 : Int32) S _ _ ls h hw hl
abbrev rm_X6_countUnheld : Room := { frames := 2, cells := 0, slots := 0, locals := 42 }
set_option maxHeartbeats 4000000 in
set_option maxRecDepth 100000 in
theorem mb_X6_countUnheld_30 {p : Program} {l : Launch} {e : Env} {s : State} {m : MethodId} {args : Array Value} {below : List Frame} {meth : Method} {c : Code} {D : va_G} {ad : Nat → Nat} {cI cJ cZ : ClassId} {A : Nat → Prop} {post : Int32 → CS → Prop} (C0 : Cx p s m args meth c cX6_countUnheld 3 RX6 (some .int) D cI cJ cZ A) (K4 : Int32 → Int32 → CS → Prop) (hK4 : ∀ (x1 : Int32) (x2 : Int32) (S : CS) (H : Heap) (locs : List Loc) (ls : Array Slot), K4 x1 x2 S → Wd (WC ad cI cJ cZ) D A s.heap H locs S → lv_has ls 3 [(0, .ref (ad 0)), (1, .int x1), (2, .int x2)] → W p l e rm_X6_countUnheld s m args below meth c H locs 0 0 (QI (WC ad cI cJ cZ) D A s args below post) (F0 m 4 ls [])) :
 ∀ (x2 : Int32) (k0 : Int32) (k1 : Int32) (S : CS) (H : Heap) (locs : List Loc) (ls : Array Slot), wp_X6_countUnheld_30 K4 post x2 k0 k1 S → Wd (WC ad cI cJ cZ) D A s.heap H locs S → lv_has ls 3 [(0, .ref (ad 0)), (2, .int x2)] → W p l e rm_X6_countUnheld s m args below meth c H locs 0 0 (QI (WC ad cI cJ cZ) D A s args below post) (F0 m 30 ls [.int k0, .int k1]) := by
  have hx := C0.1
  have hb := C0.2.1
  intro x2 k0 k1 S H locs ls h hw hl
  unfold wp_X6_countUnheld_30 at h
  refine clSI (As := [.int k0]) (rest := [.int k1]) C0 (m_X6_answer l D ad cI cJ cZ S k0 _ h) cal_X6_answer kw_28 kw_251 rfl hl.1 rfl (Nat.le_of_ble_eq_true rfl) ⟨Nat.le_of_ble_eq_true rfl, Nat.le_of_ble_eq_true rfl⟩ rfl rfl dX6_countUnheld_30 hw (fun r30 S30 H locs h hw => ?_)
  replace h := h
  refine lv_iadd hx hb dX6_countUnheld_33 ?_
  refine lv_topi (fun x1_1 ex1_1 => ?_)
  have h := h x1_1 ex1_1
  refine lv_istore_n (lv' := [(1, .int x1_1), (0, .ref (ad 0)), (2, .int x2)]) hx hb dX6_countUnheld_34 rfl hl (by decide) rfl (fun ls hl => ?_)
  obtain ⟨x2_2, ex2_2⟩ : ∃ y : Int32, y = x2 + (1 : Int32) := ⟨_, rfl⟩
  refine lv_iinc (v := x2_2) (lv' := [(2, .int x2_2), (1, .int x1_1), (0, .ref (ad 0))]) hx hb dX6_countUnheld_35 hl (k := 2) rfl (by rw [ex2_2]; rfl) (by decide) rfl (fun ls hl => ?_)
  have h := h x2_2 ex2_2
  refine lv_goto (tgt := 4) hx hb dX6_countUnheld_38 (by decide) ?_
  replace hl := lv_sub hl [2, 1, 0] rfl
  exact hK4 x1_1 x2_2 S30 _ _ _ h hw hl
set_option maxHeartbeats 4000000 in
set_option maxRecDepth 100000 in
theorem mb_X6_countUnheld_4 {p : Program} {l : Launch} {e : Env} {s : State} {m : MethodId} {args : Array Value} {below : List Frame} {meth : Method} {c : Code} {D : va_G} {ad : Nat → Nat} {cI cJ cZ : ClassId} {A : Nat → Prop} {post : Int32 → CS → Prop} (C0 : Cx p s m args meth c cX6_countUnheld 3 RX6 (some .int) D cI cJ cZ A) :
 ∀ (n : Nat) (x1 : Int32) (x2 : Int32) (S : CS) (H : Heap) (locs : List Loc) (ls : Array Slot), wp_X6_countUnheld_4 post n x1 x2 S → Wd (WC ad cI cJ cZ) D A s.heap H locs S → lv_has ls 3 [(0, .ref (ad 0)), (1, .int x1), (2, .int x2)] → W p l e rm_X6_countUnheld s m args below meth c H locs 0 0 (QI (WC ad cI cJ cZ) D A s args below post) (F0 m 4 ls []) := by
  have hx := C0.1
  have hb := C0.2.1
  intro n
  induction n with
  | zero => intro x1 x2 S H locs ls h; exact h.elim
  | succ n ih =>
    intro x1 x2 S H locs ls h hw hl
    replace h : ws_X6_countUnheld_4 (wp_X6_countUnheld_4  post n)  post x1 x2 S := h
    unfold ws_X6_countUnheld_4 at h
    refine lv_iload_n hx hb dX6_countUnheld_4 rfl (lv_at hl 2 rfl) ?_
    refine lv_sipush (v := 150) hx hb dX6_countUnheld_5 (by decide) ?_
    refine lv_icmp_ge (tgt := 41) hx hb dX6_countUnheld_8 (by decide) (fun c8 => ?_) (fun c8 => ?_)
    · have h := h.1 c8
      refine lv_iload_n hx hb dX6_countUnheld_41 rfl (lv_at hl 1 rfl) ?_
      exact rtI C0 hw h dX6_countUnheld_42
    · have h := h.2 c8
      refine lv_iload_n hx hb dX6_countUnheld_11 rfl (lv_at hl 1 rfl) ?_
      refine lv_aload_n hx hb dX6_countUnheld_12 rfl (lv_at hl 0 rfl) ?_
      refine gf_X6_leaves C0 hw dX6_countUnheld_13 ?_
      refine lv_iload_n hx hb dX6_countUnheld_16 rfl (lv_at hl 2 rfl) ?_
      refine clVL (As := [.int x2]) (rest := [.int x1]) (ci := 1) (k := 20) C0 (m_X1_missing l D ad cI cJ cZ S x2 _ h) cal_X1_missing kw_153 kw_152 kw_151 rfl rfl rfl rfl hl.1 rfl (Nat.le_of_ble_eq_true rfl) ⟨Nat.le_of_ble_eq_true rfl, Nat.le_of_ble_eq_true rfl⟩ rfl rfl dX6_countUnheld_17 hw (fun r17 S17 H locs h hw => ?_)
      replace h := h
      refine lv_lconst (v := 0) hx hb dX6_countUnheld_20 (by decide) ?_
      refine W.lcmp hx hb dX6_countUnheld_21 ?_
      refine lv_if_eq (tgt := 29) hx hb dX6_countUnheld_22 (by decide) (fun c22 => ?_) (fun c22 => ?_)
      · have h := h.1 c22
        refine lv_iconst (v := 0) hx hb dX6_countUnheld_29 (by decide) ?_
        replace hl := lv_sub hl [0, 2] rfl
        exact mb_X6_countUnheld_30 C0 _ ih x2 (0 : Int32) x1 S17 _ _ ls h hw hl
      · have h := h.2 c22
        refine lv_iconst (v := 1) hx hb dX6_countUnheld_25 (by decide) ?_
        refine lv_goto (tgt := 30) hx hb dX6_countUnheld_26 (by decide) ?_
        replace hl := lv_sub hl [0, 2] rfl
        exact mb_X6_countUnheld_30 C0 _ ih x2 (1 : Int32) x1 S17 _ _ ls h hw hl
set_option maxHeartbeats 4000000 in
set_option maxRecDepth 100000 in
theorem m_X6_countUnheld (l : Launch) (D : va_G) (ad : Nat → Nat) (cI cJ cZ : ClassId) (S : CS)  (post : Int32 → CS → Prop) (h : wp_X6_countUnheld S  post) : CI (WC ad cI cJ cZ) D cI cJ cZ l yX6_countUnheld (.code yX6_countUnheld cX6_countUnheld 3 (some .int) :: gt) rm_X6_countUnheld S [.ref (ad 0)] post := by
  refine enI (by decide) (Nat.le_of_ble_eq_true rfl) ?_
  intro p e s m below meth c A ls C0 hw hl
  have C0 : Cx p s m _ meth c cX6_countUnheld 3 RX6 (some .int) D cI cJ cZ A := C0
  have hl : lv_has ls 3 [(0, .ref (ad 0))] := hl
  have hx := C0.1
  have hb := C0.2.1
  unfold wp_X6_countUnheld at h
  refine lv_iconst (v := 0) hx hb dX6_countUnheld_0 (by decide) ?_
  refine lv_istore_n (lv' := [(1, .int (0 : Int32)), (0, .ref (ad 0))]) hx hb dX6_countUnheld_1 rfl hl (by decide) rfl (fun ls hl => ?_)
  refine lv_iconst (v := 0) hx hb dX6_countUnheld_2 (by decide) ?_
  refine lv_istore_n (lv' := [(2, .int (0 : Int32)), (1, .int (0 : Int32)), (0, .ref (ad 0))]) hx hb dX6_countUnheld_3 rfl hl (by decide) rfl (fun ls hl => ?_)
  replace hl := lv_sub hl [2, 1, 0] rfl
  obtain ⟨n, h⟩ := h
  exact mb_X6_countUnheld_4 C0 n (0 : Int32) (0 : Int32) S _ _ ls h hw hl
abbrev rm_X6_countClashing : Room := { frames := 4, cells := 0, slots := 0, locals := 89 }
set_option maxHeartbeats 4000000 in
set_option maxRecDepth 100000 in
theorem mb_X6_countClashing_29 {p : Program} {l : Launch} {e : Env} {s : State} {m : MethodId} {args : Array Value} {below : List Frame} {meth : Method} {c : Code} {D : va_G} {ad : Nat → Nat} {cI cJ cZ : ClassId} {A : Nat → Prop} {post : Int32 → CS → Prop} (C0 : Cx p s m args meth c cX6_countClashing 3 RX6 (some .int) D cI cJ cZ A) (K4 : Int32 → Int32 → CS → Prop) (hK4 : ∀ (x1 : Int32) (x2 : Int32) (S : CS) (H : Heap) (locs : List Loc) (ls : Array Slot), K4 x1 x2 S → Wd (WC ad cI cJ cZ) D A s.heap H locs S → lv_has ls 3 [(0, .ref (ad 0)), (1, .int x1), (2, .int x2)] → W p l e rm_X6_countClashing s m args below meth c H locs 0 0 (QI (WC ad cI cJ cZ) D A s args below post) (F0 m 4 ls [])) :
 ∀ (x2 : Int32) (k0 : Int32) (k1 : Int32) (S : CS) (H : Heap) (locs : List Loc) (ls : Array Slot), wp_X6_countClashing_29 K4 post x2 k0 k1 S → Wd (WC ad cI cJ cZ) D A s.heap H locs S → lv_has ls 3 [(0, .ref (ad 0)), (2, .int x2)] → W p l e rm_X6_countClashing s m args below meth c H locs 0 0 (QI (WC ad cI cJ cZ) D A s args below post) (F0 m 29 ls [.int k0, .int k1]) := by
  have hx := C0.1
  have hb := C0.2.1
  intro x2 k0 k1 S H locs ls h hw hl
  unfold wp_X6_countClashing_29 at h
  refine clSI (As := [.int k0]) (rest := [.int k1]) C0 (m_X6_answer l D ad cI cJ cZ S k0 _ h) cal_X6_answer kw_28 kw_251 rfl hl.1 rfl (Nat.le_of_ble_eq_true rfl) ⟨Nat.le_of_ble_eq_true rfl, Nat.le_of_ble_eq_true rfl⟩ rfl rfl dX6_countClashing_29 hw (fun r29 S29 H locs h hw => ?_)
  replace h := h
  refine lv_iadd hx hb dX6_countClashing_32 ?_
  refine lv_topi (fun x1_1 ex1_1 => ?_)
  have h := h x1_1 ex1_1
  refine lv_istore_n (lv' := [(1, .int x1_1), (0, .ref (ad 0)), (2, .int x2)]) hx hb dX6_countClashing_33 rfl hl (by decide) rfl (fun ls hl => ?_)
  obtain ⟨x2_2, ex2_2⟩ : ∃ y : Int32, y = x2 + (1 : Int32) := ⟨_, rfl⟩
  refine lv_iinc (v := x2_2) (lv' := [(2, .int x2_2), (1, .int x1_1), (0, .ref (ad 0))]) hx hb dX6_countClashing_34 hl (k := 2) rfl (by rw [ex2_2]; rfl) (by decide) rfl (fun ls hl => ?_)
  have h := h x2_2 ex2_2
  refine lv_goto (tgt := 4) hx hb dX6_countClashing_37 (by decide) ?_
  replace hl := lv_sub hl [2, 1, 0] rfl
  exact hK4 x1_1 x2_2 S29 _ _ _ h hw hl
set_option maxHeartbeats 4000000 in
set_option maxRecDepth 100000 in
theorem mb_X6_countClashing_4 {p : Program} {l : Launch} {e : Env} {s : State} {m : MethodId} {args : Array Value} {below : List Frame} {meth : Method} {c : Code} {D : va_G} {ad : Nat → Nat} {cI cJ cZ : ClassId} {A : Nat → Prop} {post : Int32 → CS → Prop} (C0 : Cx p s m args meth c cX6_countClashing 3 RX6 (some .int) D cI cJ cZ A) :
 ∀ (n : Nat) (x1 : Int32) (x2 : Int32) (S : CS) (H : Heap) (locs : List Loc) (ls : Array Slot), wp_X6_countClashing_4 post n x1 x2 S → Wd (WC ad cI cJ cZ) D A s.heap H locs S → lv_has ls 3 [(0, .ref (ad 0)), (1, .int x1), (2, .int x2)] → W p l e rm_X6_countClashing s m args below meth c H locs 0 0 (QI (WC ad cI cJ cZ) D A s args below post) (F0 m 4 ls []) := by
  have hx := C0.1
  have hb := C0.2.1
  intro n
  induction n with
  | zero => intro x1 x2 S H locs ls h; exact h.elim
  | succ n ih =>
    intro x1 x2 S H locs ls h hw hl
    replace h : ws_X6_countClashing_4 (wp_X6_countClashing_4  post n)  post x1 x2 S := h
    unfold ws_X6_countClashing_4 at h
    refine lv_iload_n hx hb dX6_countClashing_4 rfl (lv_at hl 2 rfl) ?_
    refine lv_sipush (v := 150) hx hb dX6_countClashing_5 (by decide) ?_
    refine lv_icmp_ge (tgt := 40) hx hb dX6_countClashing_8 (by decide) (fun c8 => ?_) (fun c8 => ?_)
    · have h := h.1 c8
      refine lv_iload_n hx hb dX6_countClashing_40 rfl (lv_at hl 1 rfl) ?_
      exact rtI C0 hw h dX6_countClashing_41
    · have h := h.2 c8
      refine lv_iload_n hx hb dX6_countClashing_11 rfl (lv_at hl 1 rfl) ?_
      refine lv_aload_n hx hb dX6_countClashing_12 rfl (lv_at hl 0 rfl) ?_
      refine gf_X6_loans C0 hw dX6_countClashing_13 ?_
      refine lv_iload_n hx hb dX6_countClashing_16 rfl (lv_at hl 2 rfl) ?_
      refine clVI (As := [.int x2]) (rest := [.int x1]) (ci := 2) (k := 24) C0 (m_X2_leastClash l D ad cI cJ cZ S x2 _ h) cal_X2_leastClash kw_234 kw_233 kw_232 rfl rfl rfl rfl hl.1 rfl (Nat.le_of_ble_eq_true rfl) ⟨Nat.le_of_ble_eq_true rfl, Nat.le_of_ble_eq_true rfl⟩ rfl rfl dX6_countClashing_17 hw (fun r17 S17 H locs h hw => ?_)
      replace h := h
      refine lv_iconst (v := -1) hx hb dX6_countClashing_20 (by decide) ?_
      refine lv_icmp_eq (tgt := 28) hx hb dX6_countClashing_21 (by decide) (fun c21 => ?_) (fun c21 => ?_)
      · have h := h.1 c21
        refine lv_iconst (v := 0) hx hb dX6_countClashing_28 (by decide) ?_
        replace hl := lv_sub hl [0, 2] rfl
        exact mb_X6_countClashing_29 C0 _ ih x2 (0 : Int32) x1 S17 _ _ ls h hw hl
      · have h := h.2 c21
        refine lv_iconst (v := 1) hx hb dX6_countClashing_24 (by decide) ?_
        refine lv_goto (tgt := 29) hx hb dX6_countClashing_25 (by decide) ?_
        replace hl := lv_sub hl [0, 2] rfl
        exact mb_X6_countClashing_29 C0 _ ih x2 (1 : Int32) x1 S17 _ _ ls h hw hl
set_option maxHeartbeats 4000000 in
set_option maxRecDepth 100000 in
theorem m_X6_countClashing (l : Launch) (D : va_G) (ad : Nat → Nat) (cI cJ cZ : ClassId) (S : CS)  (post : Int32 → CS → Prop) (h : wp_X6_countClashing S  post) : CI (WC ad cI cJ cZ) D cI cJ cZ l yX6_countClashing (.code yX6_countClashing cX6_countClashing 3 (some .int) :: gt) rm_X6_countClashing S [.ref (ad 0)] post := by
  refine enI (by decide) (Nat.le_of_ble_eq_true rfl) ?_
  intro p e s m below meth c A ls C0 hw hl
  have C0 : Cx p s m _ meth c cX6_countClashing 3 RX6 (some .int) D cI cJ cZ A := C0
  have hl : lv_has ls 3 [(0, .ref (ad 0))] := hl
  have hx := C0.1
  have hb := C0.2.1
  unfold wp_X6_countClashing at h
  refine lv_iconst (v := 0) hx hb dX6_countClashing_0 (by decide) ?_
  refine lv_istore_n (lv' := [(1, .int (0 : Int32)), (0, .ref (ad 0))]) hx hb dX6_countClashing_1 rfl hl (by decide) rfl (fun ls hl => ?_)
  refine lv_iconst (v := 0) hx hb dX6_countClashing_2 (by decide) ?_
  refine lv_istore_n (lv' := [(2, .int (0 : Int32)), (1, .int (0 : Int32)), (0, .ref (ad 0))]) hx hb dX6_countClashing_3 rfl hl (by decide) rfl (fun ls hl => ?_)
  replace hl := lv_sub hl [2, 1, 0] rfl
  obtain ⟨n, h⟩ := h
  exact mb_X6_countClashing_4 C0 n (0 : Int32) (0 : Int32) S _ _ ls h hw hl
abbrev rm_X6_count : Room := { frames := 6, cells := 0, slots := 0, locals := 125 }
set_option maxHeartbeats 4000000 in
set_option maxRecDepth 100000 in
theorem m_X6_count (l : Launch) (D : va_G) (ad : Nat → Nat) (cI cJ cZ : ClassId) (S : CS) (x1 : Int32) (post : Int32 → CS → Prop) (h : wp_X6_count S x1 post) : CI (WC ad cI cJ cZ) D cI cJ cZ l yX6_count (.code yX6_count cX6_count 2 (some .int) :: gt) rm_X6_count S [.ref (ad 0), .int x1] post := by
  refine enI (by decide) (Nat.le_of_ble_eq_true rfl) ?_
  intro p e s m below meth c A ls C0 hw hl
  have C0 : Cx p s m _ meth c cX6_count 2 RX6 (some .int) D cI cJ cZ A := C0
  have hl : lv_has ls 2 [(0, .ref (ad 0)), (1, .int x1)] := hl
  have hx := C0.1
  have hb := C0.2.1
  unfold wp_X6_count at h
  refine lv_iload_n hx hb dX6_count_0 rfl (lv_at hl 1 rfl) ?_
  have hd := h.1; have h := h.2
  by_cases ho : (x1).toInt < 0 ∨ 5 < (x1).toInt
  · have h := hd ho
    refine lv_tableOut (tgt := 99) hx hb dX6_count_1 ho (by decide) ?_
    refine lv_iconst (v := -1) hx hb dX6_count_99 (by decide) ?_
    exact rtI C0 hw h dX6_count_100
  rcases sw_6 ho with ho | ho | ho | ho | ho | ho
  · have h := h.1 ho
    refine tbl_in (v := 0) (off := 39) (tgt := 40) hx hb dX6_count_1 ho (by decide) (by decide) (by decide) (by decide) ?_
    refine lv_aload_n hx hb dX6_count_40 rfl (lv_at hl 0 rfl) ?_
    refine gf_X6_variables C0 hw dX6_count_41 ?_
    refine clVI (As := []) (rest := []) (ci := 3) (k := 1) C0 (m_X4_size l D ad cI cJ cZ S _ h) cal_X4_size kw_178 kw_177 kw_273 rfl rfl rfl rfl hl.1 rfl (Nat.le_of_ble_eq_true rfl) ⟨Nat.le_of_ble_eq_true rfl, Nat.le_of_ble_eq_true rfl⟩ rfl rfl dX6_count_44 hw (fun r44 S44 H locs h hw => ?_)
    replace h := h
    exact rtI C0 hw h dX6_count_47
  · have h := h.2.1 ho
    refine tbl_in (v := 1) (off := 47) (tgt := 48) hx hb dX6_count_1 ho (by decide) (by decide) (by decide) (by decide) ?_
    refine lv_aload_n hx hb dX6_count_48 rfl (lv_at hl 0 rfl) ?_
    refine clVV (As := []) (rest := []) (ci := 5) (k := 0) C0 (m_X6_knowLoans l D ad cI cJ cZ S _ h) cal_X6_knowLoans kw_217 kw_216 kw_215 rfl rfl rfl rfl hl.1 rfl (Nat.le_of_ble_eq_true rfl) ⟨Nat.le_of_ble_eq_true rfl, Nat.le_of_ble_eq_true rfl⟩ rfl rfl dX6_count_49 hw (fun S49 H locs h hw => ?_)
    replace h := h
    refine lv_aload_n hx hb dX6_count_52 rfl (lv_at hl 0 rfl) ?_
    refine gf_X6_loans C0 hw dX6_count_53 ?_
    refine clVI (As := []) (rest := []) (ci := 2) (k := 24) C0 (m_X2_size l D ad cI cJ cZ S49 _ h) cal_X2_size kw_276 kw_275 kw_274 rfl rfl rfl rfl hl.1 rfl (Nat.le_of_ble_eq_true rfl) ⟨Nat.le_of_ble_eq_true rfl, Nat.le_of_ble_eq_true rfl⟩ rfl rfl dX6_count_56 hw (fun r56 S56 H locs h hw => ?_)
    replace h := h
    exact rtI C0 hw h dX6_count_59
  · have h := h.2.2.1 ho
    refine tbl_in (v := 2) (off := 59) (tgt := 60) hx hb dX6_count_1 ho (by decide) (by decide) (by decide) (by decide) ?_
    refine lv_aload_n hx hb dX6_count_60 rfl (lv_at hl 0 rfl) ?_
    refine clVV (As := []) (rest := []) (ci := 5) (k := 0) C0 (m_X6_knowWays l D ad cI cJ cZ S _ h) cal_X6_knowWays kw_113 kw_112 kw_111 rfl rfl rfl rfl hl.1 rfl (Nat.le_of_ble_eq_true rfl) ⟨Nat.le_of_ble_eq_true rfl, Nat.le_of_ble_eq_true rfl⟩ rfl rfl dX6_count_61 hw (fun S61 H locs h hw => ?_)
    replace h := h
    refine lv_aload_n hx hb dX6_count_64 rfl (lv_at hl 0 rfl) ?_
    refine gf_X6_ways C0 hw dX6_count_65 ?_
    refine clVI (As := []) (rest := []) (ci := 4) (k := 14) C0 (m_X5_size l D ad cI cJ cZ S61 _ h) cal_X5_size kw_119 kw_118 kw_277 rfl rfl rfl rfl hl.1 rfl (Nat.le_of_ble_eq_true rfl) ⟨Nat.le_of_ble_eq_true rfl, Nat.le_of_ble_eq_true rfl⟩ rfl rfl dX6_count_68 hw (fun r68 S68 H locs h hw => ?_)
    replace h := h
    exact rtI C0 hw h dX6_count_71
  · have h := h.2.2.2.1 ho
    refine tbl_in (v := 3) (off := 71) (tgt := 72) hx hb dX6_count_1 ho (by decide) (by decide) (by decide) (by decide) ?_
    refine lv_aload_n hx hb dX6_count_72 rfl (lv_at hl 0 rfl) ?_
    refine clVV (As := []) (rest := []) (ci := 5) (k := 0) C0 (m_X6_knowLoans l D ad cI cJ cZ S _ h) cal_X6_knowLoans kw_217 kw_216 kw_215 rfl rfl rfl rfl hl.1 rfl (Nat.le_of_ble_eq_true rfl) ⟨Nat.le_of_ble_eq_true rfl, Nat.le_of_ble_eq_true rfl⟩ rfl rfl dX6_count_73 hw (fun S73 H locs h hw => ?_)
    replace h := h
    refine lv_aload_n hx hb dX6_count_76 rfl (lv_at hl 0 rfl) ?_
    refine clVI (As := []) (rest := []) (ci := 5) (k := 0) C0 (m_X6_countInForce l D ad cI cJ cZ S73 _ h) cal_X6_countInForce kw_286 kw_285 kw_284 rfl rfl rfl rfl hl.1 rfl (Nat.le_of_ble_eq_true rfl) ⟨Nat.le_of_ble_eq_true rfl, Nat.le_of_ble_eq_true rfl⟩ rfl rfl dX6_count_77 hw (fun r77 S77 H locs h hw => ?_)
    replace h := h
    exact rtI C0 hw h dX6_count_80
  · have h := h.2.2.2.2.1 ho
    refine tbl_in (v := 4) (off := 80) (tgt := 81) hx hb dX6_count_1 ho (by decide) (by decide) (by decide) (by decide) ?_
    refine lv_aload_n hx hb dX6_count_81 rfl (lv_at hl 0 rfl) ?_
    refine clVV (As := []) (rest := []) (ci := 5) (k := 0) C0 (m_X6_knowLeaves l D ad cI cJ cZ S _ h) cal_X6_knowLeaves kw_144 kw_143 kw_142 rfl rfl rfl rfl hl.1 rfl (Nat.le_of_ble_eq_true rfl) ⟨Nat.le_of_ble_eq_true rfl, Nat.le_of_ble_eq_true rfl⟩ rfl rfl dX6_count_82 hw (fun S82 H locs h hw => ?_)
    replace h := h
    refine lv_aload_n hx hb dX6_count_85 rfl (lv_at hl 0 rfl) ?_
    refine clVI (As := []) (rest := []) (ci := 5) (k := 0) C0 (m_X6_countUnheld l D ad cI cJ cZ S82 _ h) cal_X6_countUnheld kw_289 kw_288 kw_287 rfl rfl rfl rfl hl.1 rfl (Nat.le_of_ble_eq_true rfl) ⟨Nat.le_of_ble_eq_true rfl, Nat.le_of_ble_eq_true rfl⟩ rfl rfl dX6_count_86 hw (fun r86 S86 H locs h hw => ?_)
    replace h := h
    exact rtI C0 hw h dX6_count_89
  · have h := h.2.2.2.2.2 ho
    refine tbl_in (v := 5) (off := 89) (tgt := 90) hx hb dX6_count_1 ho (by decide) (by decide) (by decide) (by decide) ?_
    refine lv_aload_n hx hb dX6_count_90 rfl (lv_at hl 0 rfl) ?_
    refine clVV (As := []) (rest := []) (ci := 5) (k := 0) C0 (m_X6_knowLoans l D ad cI cJ cZ S _ h) cal_X6_knowLoans kw_217 kw_216 kw_215 rfl rfl rfl rfl hl.1 rfl (Nat.le_of_ble_eq_true rfl) ⟨Nat.le_of_ble_eq_true rfl, Nat.le_of_ble_eq_true rfl⟩ rfl rfl dX6_count_91 hw (fun S91 H locs h hw => ?_)
    replace h := h
    refine lv_aload_n hx hb dX6_count_94 rfl (lv_at hl 0 rfl) ?_
    refine clVI (As := []) (rest := []) (ci := 5) (k := 0) C0 (m_X6_countClashing l D ad cI cJ cZ S91 _ h) cal_X6_countClashing kw_292 kw_291 kw_290 rfl rfl rfl rfl hl.1 rfl (Nat.le_of_ble_eq_true rfl) ⟨Nat.le_of_ble_eq_true rfl, Nat.le_of_ble_eq_true rfl⟩ rfl rfl dX6_count_95 hw (fun r95 S95 H locs h hw => ?_)
    replace h := h
    exact rtI C0 hw h dX6_count_98

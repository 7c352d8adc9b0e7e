abbrev rm_X7_in : Room := { frames := 0, cells := 0, slots := 0, locals := 0 }
set_option maxHeartbeats 4000000 in
set_option maxRecDepth 100000 in
theorem m_X7_in (l : Launch) (D : va_G) (ad : Nat → Nat) (cI cJ cZ : ClassId) (S : MS) (x0 : Int32) (x1 : Int32) (x2 : Int32) (post : Int32 → MS → Prop) (h : wp_X7_in S x0 x1 x2 post) : CI (WM ad cI cJ cZ) D cI cJ cZ l yX7_in (.code yX7_in cX7_in 3 (some .boolean) :: gt) rm_X7_in S [.int x0, .int x1, .int x2] post := by
  refine enI (by decide) (Nat.le_of_ble_eq_true rfl) ?_
  intro p e s m below meth c A ls C0 hw hl
  have C0 : Cx p s m _ meth c cX7_in 3 RX7 (some .boolean) D cI cJ cZ A := C0
  have hl : lv_has ls 3 [(0, .int x0), (1, .int x1), (2, .int x2)] := hl
  have hx := C0.1
  have hb := C0.2.1
  unfold wp_X7_in at h
  refine lv_iload_n hx hb dX7_in_0 rfl (lv_at hl 0 rfl) ?_
  refine lv_iload_n hx hb dX7_in_1 rfl (lv_at hl 1 rfl) ?_
  refine lv_icmp_lt (tgt := 14) hx hb dX7_in_2 (by decide) (fun c2 => ?_) (fun c2 => ?_)
  · have h := h.1 c2
    refine lv_iconst (v := 0) hx hb dX7_in_14 (by decide) ?_
    exact rtZ C0 hw rfl h dX7_in_15
  · have h := h.2 c2
    refine lv_iload_n hx hb dX7_in_5 rfl (lv_at hl 0 rfl) ?_
    refine lv_iload_n hx hb dX7_in_6 rfl (lv_at hl 2 rfl) ?_
    refine lv_icmp_gt (tgt := 14) hx hb dX7_in_7 (by decide) (fun c7 => ?_) (fun c7 => ?_)
    · have h := h.1 c7
      refine lv_iconst (v := 0) hx hb dX7_in_14 (by decide) ?_
      exact rtZ C0 hw rfl h dX7_in_15
    · have h := h.2 c7
      refine lv_iconst (v := 1) hx hb dX7_in_10 (by decide) ?_
      refine lv_goto (tgt := 15) hx hb dX7_in_11 (by decide) ?_
      exact rtZ C0 hw rfl h dX7_in_15
abbrev rm_X7_variable : Room := { frames := 1, cells := 0, slots := 0, locals := 22 }
set_option maxHeartbeats 4000000 in
set_option maxRecDepth 100000 in
theorem mb_X7_variable_20 {p : Program} {l : Launch} {e : Env} {s : State} {m : MethodId} {args : Array Value} {below : List Frame} {meth : Method} {c : Code} {D : va_G} {ad : Nat → Nat} {cI cJ cZ : ClassId} {A : Nat → Prop} {post : Int32 → MS → Prop} (C0 : Cx p s m args meth c cX7_variable 3 RX7 (some .int) D cI cJ cZ A) :
 ∀ (x1 : Int32) (x2 : Int32) (k0 : Int32) (k1 : Int32) (k2 : Int32) (S : MS) (H : Heap) (locs : List Loc) (ls : Array Slot), wp_X7_variable_20 post x1 x2 k0 k1 k2 S → Wd (WM ad cI cJ cZ) D A s.heap H locs S → lv_has ls 3 [(0, .ref (ad 0)), (1, .int x1), (2, .int x2)] → W p l e rm_X7_variable s m args below meth c H locs 0 0 (QI (WM ad cI cJ cZ) D A s args below post) (F0 m 20 ls [.int k0, .int k1, .int k2]) := by
  have hx := C0.1
  have hb := C0.2.1
  intro x1 x2 k0 k1 k2 S H locs ls h hw hl
  unfold wp_X7_variable_20 at h
  refine clSI (As := [.int k2, .int k1, .int k0]) (rest := []) C0 (m_X7_in l D ad cI cJ cZ S k2 k1 k0 _ h) cal_X7_in kw_294 kw_293 rfl hl.1 rfl (Nat.le_of_ble_eq_true rfl) ⟨Nat.le_of_ble_eq_true rfl, Nat.le_of_ble_eq_true rfl⟩ rfl rfl dX7_variable_20 hw (fun r20 S20 H locs h hw => ?_)
  replace h := h
  refine lv_if_eq (tgt := 35) hx hb dX7_variable_23 (by decide) (fun c23 => ?_) (fun c23 => ?_)
  · have h := h.1 c23
    refine lv_iconst (v := -1) hx hb dX7_variable_35 (by decide) ?_
    exact rtI C0 hw h dX7_variable_36
  · have h := h.2 c23
    refine lv_aload_n hx hb dX7_variable_26 rfl (lv_at hl 0 rfl) ?_
    refine gf_X7_variables C0 hw dX7_variable_27 ?_
    refine lv_bipush (v := 16) hx hb dX7_variable_30 (by decide) ?_
    refine lv_icmp_ne (tgt := 37) hx hb dX7_variable_32 (by decide) (fun c32 => ?_) (fun c32 => ?_)
    · have h := h.1 c32
      refine lv_aload_n hx hb dX7_variable_37 rfl (lv_at hl 0 rfl) ?_
      refine gf_X7_sort C0 hw dX7_variable_38 ?_
      refine lv_aload_n hx hb dX7_variable_41 rfl (lv_at hl 0 rfl) ?_
      refine gf_X7_variables C0 hw dX7_variable_42 ?_
      refine lv_iload_n hx hb dX7_variable_45 rfl (lv_at hl 1 rfl) ?_
      refine st_M_sort C0 hw h.1 dX7_variable_46 (fun H locs hw => ?_)
      have h := h.2
      obtain ⟨S_1, eS_1⟩ : ∃ z, z = sM_sort S20 (upd (gM_sort S20) (gM_nv S20).toNatClampNeg x1) := ⟨_, rfl⟩
      rw [← eS_1] at hw
      have h := h S_1 eS_1
      refine lv_aload_n hx hb dX7_variable_47 rfl (lv_at hl 0 rfl) ?_
      refine gf_X7_leaves C0 hw dX7_variable_48 ?_
      refine lv_aload_n hx hb dX7_variable_51 rfl (lv_at hl 0 rfl) ?_
      refine gf_X7_variables C0 hw dX7_variable_52 ?_
      refine lv_iload_n hx hb dX7_variable_55 rfl (lv_at hl 2 rfl) ?_
      refine st_M_lvs C0 hw h.1 dX7_variable_56 (fun H locs hw => ?_)
      have h := h.2
      obtain ⟨S_2, eS_2⟩ : ∃ z, z = sM_lvs S_1 (upd (gM_lvs S_1) (gM_nv S_1).toNatClampNeg x2) := ⟨_, rfl⟩
      rw [← eS_2] at hw
      have h := h S_2 eS_2
      refine lv_aload_n hx hb dX7_variable_57 rfl (lv_at hl 0 rfl) ?_
      refine gf_X7_atFirst C0 hw dX7_variable_58 ?_
      refine lv_aload_n hx hb dX7_variable_61 rfl (lv_at hl 0 rfl) ?_
      refine gf_X7_variables C0 hw dX7_variable_62 ?_
      refine lv_iconst (v := 0) hx hb dX7_variable_65 (by decide) ?_
      refine st_M_atF C0 hw h.1 dX7_variable_66 (fun H locs hw => ?_)
      have h := h.2
      obtain ⟨S_3, eS_3⟩ : ∃ z, z = sM_atF S_2 (upd (gM_atF S_2) (gM_nv S_2).toNatClampNeg (vp_nar .boolean (0 : Int32))) := ⟨_, rfl⟩
      rw [← eS_3] at hw
      have h := h S_3 eS_3
      refine lv_aload_n hx hb dX7_variable_67 rfl (lv_at hl 0 rfl) ?_
      refine lv_dup hx hb dX7_variable_68 rfl ?_
      refine gf_X7_variables C0 hw dX7_variable_69 ?_
      refine lv_iconst (v := 1) hx hb dX7_variable_72 (by decide) ?_
      refine lv_iadd hx hb dX7_variable_73 ?_
      refine pf_X7_variables C0 hw dX7_variable_74 (fun H locs hw => ?_)
      obtain ⟨S_4, eS_4⟩ : ∃ z, z = sM_nv S_3 ((gM_nv S_3) + (1 : Int32)) := ⟨_, rfl⟩
      rw [← eS_4] at hw
      have h := h S_4 eS_4
      refine lv_aload_n hx hb dX7_variable_77 rfl (lv_at hl 0 rfl) ?_
      refine lv_iconst (v := 1) hx hb dX7_variable_78 (by decide) ?_
      refine pf_X7_isOld C0 hw (Or.inr rfl) dX7_variable_79 (fun H locs hw => ?_)
      obtain ⟨S_5, eS_5⟩ : ∃ z, z = sM_isOld S_4 (1 : Int32) := ⟨_, rfl⟩
      rw [← eS_5] at hw
      have h := h S_5 eS_5
      refine lv_aload_n hx hb dX7_variable_82 rfl (lv_at hl 0 rfl) ?_
      refine gf_X7_variables C0 hw dX7_variable_83 ?_
      refine lv_iconst (v := 1) hx hb dX7_variable_86 (by decide) ?_
      refine lv_isub hx hb dX7_variable_87 ?_
      exact rtI C0 hw h dX7_variable_88
    · have h := h.2 c32
      refine lv_iconst (v := -1) hx hb dX7_variable_35 (by decide) ?_
      exact rtI C0 hw h dX7_variable_36
set_option maxHeartbeats 4000000 in
set_option maxRecDepth 100000 in
theorem m_X7_variable (l : Launch) (D : va_G) (ad : Nat → Nat) (cI cJ cZ : ClassId) (S : MS) (x1 : Int32) (x2 : Int32) (post : Int32 → MS → Prop) (h : wp_X7_variable S x1 x2 post) : CI (WM ad cI cJ cZ) D cI cJ cZ l yX7_variable (.code yX7_variable cX7_variable 3 (some .int) :: gt) rm_X7_variable S [.ref (ad 0), .int x1, .int x2] post := by
  refine enI (by decide) (Nat.le_of_ble_eq_true rfl) ?_
  intro p e s m below meth c A ls C0 hw hl
  have C0 : Cx p s m _ meth c cX7_variable 3 RX7 (some .int) D cI cJ cZ A := C0
  have hl : lv_has ls 3 [(0, .ref (ad 0)), (1, .int x1), (2, .int x2)] := hl
  have hx := C0.1
  have hb := C0.2.1
  unfold wp_X7_variable at h
  refine lv_iload_n hx hb dX7_variable_0 rfl (lv_at hl 1 rfl) ?_
  refine lv_iconst (v := 0) hx hb dX7_variable_1 (by decide) ?_
  refine lv_iconst (v := 2) hx hb dX7_variable_2 (by decide) ?_
  refine clSI (As := [.int x1, .int (0 : Int32), .int (2 : Int32)]) (rest := []) C0 (m_X7_in l D ad cI cJ cZ S x1 (0 : Int32) (2 : Int32) _ h) cal_X7_in kw_294 kw_293 rfl hl.1 rfl (Nat.le_of_ble_eq_true rfl) ⟨Nat.le_of_ble_eq_true rfl, Nat.le_of_ble_eq_true rfl⟩ rfl rfl dX7_variable_3 hw (fun r3 S3 H locs h hw => ?_)
  replace h := h
  refine lv_if_eq (tgt := 35) hx hb dX7_variable_6 (by decide) (fun c6 => ?_) (fun c6 => ?_)
  · have h := h.1 c6
    refine lv_iconst (v := -1) hx hb dX7_variable_35 (by decide) ?_
    exact rtI C0 hw h dX7_variable_36
  · have h := h.2 c6
    refine lv_iload_n hx hb dX7_variable_9 rfl (lv_at hl 2 rfl) ?_
    refine lv_iconst (v := 1) hx hb dX7_variable_10 (by decide) ?_
    refine lv_iload_n hx hb dX7_variable_11 rfl (lv_at hl 1 rfl) ?_
    refine lv_if_ne (tgt := 19) hx hb dX7_variable_12 (by decide) (fun c12 => ?_) (fun c12 => ?_)
    · have h := h.1 c12
      refine lv_iconst (v := 1) hx hb dX7_variable_19 (by decide) ?_
      replace hl := lv_sub hl [0, 1, 2] rfl
      exact mb_X7_variable_20 C0 x1 x2 (1 : Int32) (1 : Int32) x2 S3 _ _ ls h hw hl
    · have h := h.2 c12
      refine lv_iconst (v := 4) hx hb dX7_variable_15 (by decide) ?_
      refine lv_goto (tgt := 20) hx hb dX7_variable_16 (by decide) ?_
      replace hl := lv_sub hl [0, 1, 2] rfl
      exact mb_X7_variable_20 C0 x1 x2 (4 : Int32) (1 : Int32) x2 S3 _ _ ls h hw hl
abbrev rm_X7_isVariable : Room := { frames := 1, cells := 0, slots := 0, locals := 22 }
set_option maxHeartbeats 4000000 in
set_option maxRecDepth 100000 in
theorem m_X7_isVariable (l : Launch) (D : va_G) (ad : Nat → Nat) (cI cJ cZ : ClassId) (S : MS) (x1 : Int32) (post : Int32 → MS → Prop) (h : wp_X7_isVariable S x1 post) : CI (WM ad cI cJ cZ) D cI cJ cZ l yX7_isVariable (.code yX7_isVariable cX7_isVariable 2 (some .boolean) :: gt) rm_X7_isVariable S [.ref (ad 0), .int x1] post := by
  refine enI (by decide) (Nat.le_of_ble_eq_true rfl) ?_
  intro p e s m below meth c A ls C0 hw hl
  have C0 : Cx p s m _ meth c cX7_isVariable 2 RX7 (some .boolean) D cI cJ cZ A := C0
  have hl : lv_has ls 2 [(0, .ref (ad 0)), (1, .int x1)] := hl
  have hx := C0.1
  have hb := C0.2.1
  unfold wp_X7_isVariable at h
  refine lv_iload_n hx hb dX7_isVariable_0 rfl (lv_at hl 1 rfl) ?_
  refine lv_iconst (v := 0) hx hb dX7_isVariable_1 (by decide) ?_
  refine lv_aload_n hx hb dX7_isVariable_2 rfl (lv_at hl 0 rfl) ?_
  refine gf_X7_variables C0 hw dX7_isVariable_3 ?_
  refine lv_iconst (v := 1) hx hb dX7_isVariable_6 (by decide) ?_
  refine lv_isub hx hb dX7_isVariable_7 ?_
  refine clSI (As := [.int x1, .int (0 : Int32), .int ((gM_nv S) - (1 : Int32))]) (rest := []) C0 (m_X7_in l D ad cI cJ cZ S x1 (0 : Int32) ((gM_nv S) - (1 : Int32)) _ h) cal_X7_in kw_294 kw_293 rfl hl.1 rfl (Nat.le_of_ble_eq_true rfl) ⟨Nat.le_of_ble_eq_true rfl, Nat.le_of_ble_eq_true rfl⟩ rfl rfl dX7_isVariable_8 hw (fun r8 S8 H locs h hw => ?_)
  replace h := h
  exact rtZ C0 hw (isb_n h.1) h.2 dX7_isVariable_11
abbrev rm_X7_begins : Room := { frames := 2, cells := 0, slots := 0, locals := 43 }
set_option maxHeartbeats 4000000 in
set_option maxRecDepth 100000 in
theorem m_X7_begins (l : Launch) (D : va_G) (ad : Nat → Nat) (cI cJ cZ : ClassId) (S : MS) (x1 : Int32) (x2 : Int32) (post : Int32 → MS → Prop) (h : wp_X7_begins S x1 x2 post) : CI (WM ad cI cJ cZ) D cI cJ cZ l yX7_begins (.code yX7_begins cX7_begins 3 (some .int) :: gt) rm_X7_begins S [.ref (ad 0), .int x1, .int x2] post := by
  refine enI (by decide) (Nat.le_of_ble_eq_true rfl) ?_
  intro p e s m below meth c A ls C0 hw hl
  have C0 : Cx p s m _ meth c cX7_begins 3 RX7 (some .int) D cI cJ cZ A := C0
  have hl : lv_has ls 3 [(0, .ref (ad 0)), (1, .int x1), (2, .int x2)] := hl
  have hx := C0.1
  have hb := C0.2.1
  unfold wp_X7_begins at h
  refine lv_aload_n hx hb dX7_begins_0 rfl (lv_at hl 0 rfl) ?_
  refine lv_iload_n hx hb dX7_begins_1 rfl (lv_at hl 1 rfl) ?_
  refine clVI (As := [.int x1]) (rest := []) (ci := 6) (k := 0) C0 (m_X7_isVariable l D ad cI cJ cZ S x1 _ h) cal_X7_isVariable kw_297 kw_296 kw_295 rfl rfl rfl rfl hl.1 rfl (Nat.le_of_ble_eq_true rfl) ⟨Nat.le_of_ble_eq_true rfl, Nat.le_of_ble_eq_true rfl⟩ rfl rfl dX7_begins_2 hw (fun r2 S2 H locs h hw => ?_)
  replace h := h
  refine lv_if_ne (tgt := 10) hx hb dX7_begins_5 (by decide) (fun c5 => ?_) (fun c5 => ?_)
  · have h := h.1 c5
    refine lv_aload_n hx hb dX7_begins_10 rfl (lv_at hl 0 rfl) ?_
    refine gf_X7_atFirst C0 hw dX7_begins_11 ?_
    refine lv_iload_n hx hb dX7_begins_14 rfl (lv_at hl 1 rfl) ?_
    refine lv_iload_n hx hb dX7_begins_15 rfl (lv_at hl 2 rfl) ?_
    refine st_M_atF C0 hw h.1 dX7_begins_16 (fun H locs hw => ?_)
    have h := h.2
    obtain ⟨S_1, eS_1⟩ : ∃ z, z = sM_atF S2 (upd (gM_atF S2) (x1).toNatClampNeg (vp_nar .boolean x2)) := ⟨_, rfl⟩
    rw [← eS_1] at hw
    have h := h S_1 eS_1
    refine lv_aload_n hx hb dX7_begins_17 rfl (lv_at hl 0 rfl) ?_
    refine lv_iconst (v := 1) hx hb dX7_begins_18 (by decide) ?_
    refine pf_X7_isOld C0 hw (Or.inr rfl) dX7_begins_19 (fun H locs hw => ?_)
    obtain ⟨S_2, eS_2⟩ : ∃ z, z = sM_isOld S_1 (1 : Int32) := ⟨_, rfl⟩
    rw [← eS_2] at hw
    have h := h S_2 eS_2
    refine lv_iconst (v := 1) hx hb dX7_begins_22 (by decide) ?_
    exact rtI C0 hw h dX7_begins_23
  · have h := h.2 c5
    refine lv_iconst (v := -1) hx hb dX7_begins_8 (by decide) ?_
    exact rtI C0 hw h dX7_begins_9
abbrev rm_X7_become : Room := { frames := 0, cells := 0, slots := 0, locals := 0 }
set_option maxHeartbeats 4000000 in
set_option maxRecDepth 100000 in
theorem m_X7_become (l : Launch) (D : va_G) (ad : Nat → Nat) (cI cJ cZ : ClassId) (S : MS) (x1 : Int32) (x2 : Int32) (x3 : Int32) (x4 : Int32) (x5 : Int32) (post : MS → Prop) (h : wp_X7_become S x1 x2 x3 x4 x5 post) : CV (WM ad cI cJ cZ) D cI cJ cZ l yX7_become (.code yX7_become cX7_become 6 none :: gt) rm_X7_become S [.ref (ad 0), .int x1, .int x2, .int x3, .int x4, .int x5] post := by
  refine enV (by decide) (Nat.le_of_ble_eq_true rfl) ?_
  intro p e s m below meth c A ls C0 hw hl
  have C0 : Cx p s m _ meth c cX7_become 6 RX7 none D cI cJ cZ A := C0
  have hl : lv_has ls 6 [(0, .ref (ad 0)), (1, .int x1), (2, .int x2), (3, .int x3), (4, .int x4), (5, .int x5)] := hl
  have hx := C0.1
  have hb := C0.2.1
  unfold wp_X7_become at h
  refine lv_aload_n hx hb dX7_become_0 rfl (lv_at hl 0 rfl) ?_
  refine gf_X7_acts C0 hw dX7_become_1 ?_
  refine lv_iload_n hx hb dX7_become_4 rfl (lv_at hl 1 rfl) ?_
  refine lv_iload_n hx hb dX7_become_5 rfl (lv_at hl 2 rfl) ?_
  refine st_M_acts C0 hw h.1 dX7_become_6 (fun H locs hw => ?_)
  have h := h.2
  obtain ⟨S_1, eS_1⟩ : ∃ z, z = sM_acts S (upd (gM_acts S) (x1).toNatClampNeg x2) := ⟨_, rfl⟩
  rw [← eS_1] at hw
  have h := h S_1 eS_1
  refine lv_aload_n hx hb dX7_become_7 rfl (lv_at hl 0 rfl) ?_
  refine gf_X7_of C0 hw dX7_become_8 ?_
  refine lv_iload_n hx hb dX7_become_11 rfl (lv_at hl 1 rfl) ?_
  refine lv_iload_n hx hb dX7_become_12 rfl (lv_at hl 3 rfl) ?_
  refine st_M_of C0 hw h.1 dX7_become_13 (fun H locs hw => ?_)
  have h := h.2
  obtain ⟨S_2, eS_2⟩ : ∃ z, z = sM_of S_1 (upd (gM_of S_1) (x1).toNatClampNeg x3) := ⟨_, rfl⟩
  rw [← eS_2] at hw
  have h := h S_2 eS_2
  refine lv_aload_n hx hb dX7_become_14 rfl (lv_at hl 0 rfl) ?_
  refine gf_X7_path C0 hw dX7_become_15 ?_
  refine lv_iload_n hx hb dX7_become_18 rfl (lv_at hl 1 rfl) ?_
  refine lv_iload hx hb dX7_become_19 (lv_at hl 4 rfl) ?_
  refine st_M_path C0 hw h.1 dX7_become_21 (fun H locs hw => ?_)
  have h := h.2
  obtain ⟨S_3, eS_3⟩ : ∃ z, z = sM_path S_2 (upd (gM_path S_2) (x1).toNatClampNeg x4) := ⟨_, rfl⟩
  rw [← eS_3] at hw
  have h := h S_3 eS_3
  refine lv_aload_n hx hb dX7_become_22 rfl (lv_at hl 0 rfl) ?_
  refine gf_X7_to C0 hw dX7_become_23 ?_
  refine lv_iload_n hx hb dX7_become_26 rfl (lv_at hl 1 rfl) ?_
  refine lv_iload hx hb dX7_become_27 (lv_at hl 5 rfl) ?_
  refine st_M_to C0 hw h.1 dX7_become_29 (fun H locs hw => ?_)
  have h := h.2
  obtain ⟨S_4, eS_4⟩ : ∃ z, z = sM_to S_3 (upd (gM_to S_3) (x1).toNatClampNeg x5) := ⟨_, rfl⟩
  rw [← eS_4] at hw
  have h := h S_4 eS_4
  refine lv_aload_n hx hb dX7_become_30 rfl (lv_at hl 0 rfl) ?_
  refine lv_iconst (v := 1) hx hb dX7_become_31 (by decide) ?_
  refine pf_X7_isOld C0 hw (Or.inr rfl) dX7_become_32 (fun H locs hw => ?_)
  obtain ⟨S_5, eS_5⟩ : ∃ z, z = sM_isOld S_4 (1 : Int32) := ⟨_, rfl⟩
  rw [← eS_5] at hw
  have h := h S_5 eS_5
  exact rtV C0 hw h dX7_become_35
abbrev rm_X7_isPoint : Room := { frames := 1, cells := 0, slots := 0, locals := 22 }
set_option maxHeartbeats 4000000 in
set_option maxRecDepth 100000 in
theorem m_X7_isPoint (l : Launch) (D : va_G) (ad : Nat → Nat) (cI cJ cZ : ClassId) (S : MS) (x0 : Int32) (post : Int32 → MS → Prop) (h : wp_X7_isPoint S x0 post) : CI (WM ad cI cJ cZ) D cI cJ cZ l yX7_isPoint (.code yX7_isPoint cX7_isPoint 1 (some .boolean) :: gt) rm_X7_isPoint S [.int x0] post := by
  refine enI (by decide) (Nat.le_of_ble_eq_true rfl) ?_
  intro p e s m below meth c A ls C0 hw hl
  have C0 : Cx p s m _ meth c cX7_isPoint 1 RX7 (some .boolean) D cI cJ cZ A := C0
  have hl : lv_has ls 1 [(0, .int x0)] := hl
  have hx := C0.1
  have hb := C0.2.1
  unfold wp_X7_isPoint at h
  refine lv_iload_n hx hb dX7_isPoint_0 rfl (lv_at hl 0 rfl) ?_
  refine lv_iconst (v := 0) hx hb dX7_isPoint_1 (by decide) ?_
  refine lv_sipush (v := 149) hx hb dX7_isPoint_2 (by decide) ?_
  refine clSI (As := [.int x0, .int (0 : Int32), .int (149 : Int32)]) (rest := []) C0 (m_X7_in l D ad cI cJ cZ S x0 (0 : Int32) (149 : Int32) _ h) cal_X7_in kw_294 kw_293 rfl hl.1 rfl (Nat.le_of_ble_eq_true rfl) ⟨Nat.le_of_ble_eq_true rfl, Nat.le_of_ble_eq_true rfl⟩ rfl rfl dX7_isPoint_5 hw (fun r5 S5 H locs h hw => ?_)
  replace h := h
  exact rtZ C0 hw (isb_n h.1) h.2 dX7_isPoint_8
abbrev rm_X7_isPath : Room := { frames := 1, cells := 0, slots := 0, locals := 22 }
set_option maxHeartbeats 4000000 in
set_option maxRecDepth 100000 in
theorem mb_X7_isPath_46 {p : Program} {l : Launch} {e : Env} {s : State} {m : MethodId} {args : Array Value} {below : List Frame} {meth : Method} {c : Code} {D : va_G} {ad : Nat → Nat} {cI cJ cZ : ClassId} {A : Nat → Prop} {post : Int32 → MS → Prop} (C0 : Cx p s m args meth c cX7_isPath 3 RX7 (some .boolean) D cI cJ cZ A) (K17 : Int32 → Int32 → MS → Prop) (hK17 : ∀ (x1 : Int32) (x2 : Int32) (S : MS) (H : Heap) (locs : List Loc) (ls : Array Slot), K17 x1 x2 S → Wd (WM ad cI cJ cZ) D A s.heap H locs S → lv_has ls 3 [(1, .int x1), (2, .int x2)] → W p l e rm_X7_isPath s m args below meth c H locs 0 0 (QI (WM ad cI cJ cZ) D A s args below post) (F0 m 17 ls [])) :
 ∀ (x1 : Int32) (k0 : Int32) (S : MS) (H : Heap) (locs : List Loc) (ls : Array Slot), wp_X7_isPath_46 K17 post x1 k0 S → Wd (WM ad cI cJ cZ) D A s.heap H locs S → lv_has ls 3 [(1, .int x1)] → W p l e rm_X7_isPath s m args below meth c H locs 0 0 (QI (WM ad cI cJ cZ) D A s args below post) (F0 m 46 ls [.int k0]) := by
  have hx := C0.1
  have hb := C0.2.1
  intro x1 k0 S H locs ls h hw hl
  unfold wp_X7_isPath_46 at h
  refine lv_istore_n (lv' := [(2, .int k0), (1, .int x1)]) hx hb dX7_isPath_46 rfl hl (by decide) rfl (fun ls hl => ?_)
  refine lv_iload_n hx hb dX7_isPath_47 rfl (lv_at hl 1 rfl) ?_
  refine lv_bipush (v := 8) hx hb dX7_isPath_48 (by decide) ?_
  refine lv_idiv hx hb dX7_isPath_50 (by decide) ?_
  refine lv_topi (fun x1_1 ex1_1 => ?_)
  have h := h x1_1 ex1_1
  refine lv_istore_n (lv' := [(1, .int x1_1), (2, .int k0)]) hx hb dX7_isPath_51 rfl hl (by decide) rfl (fun ls hl => ?_)
  refine lv_goto (tgt := 17) hx hb dX7_isPath_52 (by decide) ?_
  replace hl := lv_sub hl [0, 1] rfl
  exact hK17 x1_1 k0 S _ _ _ h hw hl
set_option maxHeartbeats 4000000 in
set_option maxRecDepth 100000 in
theorem mb_X7_isPath_45 {p : Program} {l : Launch} {e : Env} {s : State} {m : MethodId} {args : Array Value} {below : List Frame} {meth : Method} {c : Code} {D : va_G} {ad : Nat → Nat} {cI cJ cZ : ClassId} {A : Nat → Prop} {post : Int32 → MS → Prop} (C0 : Cx p s m args meth c cX7_isPath 3 RX7 (some .boolean) D cI cJ cZ A) (K46 : Int32 → Int32 → MS → Prop) (hK46 : ∀ (x1 : Int32) (k0 : Int32) (S : MS) (H : Heap) (locs : List Loc) (ls : Array Slot), K46 x1 k0 S → Wd (WM ad cI cJ cZ) D A s.heap H locs S → lv_has ls 3 [(1, .int x1)] → W p l e rm_X7_isPath s m args below meth c H locs 0 0 (QI (WM ad cI cJ cZ) D A s args below post) (F0 m 46 ls [.int k0])) :
 ∀ (x1 : Int32) (S : MS) (H : Heap) (locs : List Loc) (ls : Array Slot), wp_X7_isPath_45 K46 post x1 S → Wd (WM ad cI cJ cZ) D A s.heap H locs S → lv_has ls 3 [(1, .int x1)] → W p l e rm_X7_isPath s m args below meth c H locs 0 0 (QI (WM ad cI cJ cZ) D A s args below post) (F0 m 45 ls []) := by
  have hx := C0.1
  have hb := C0.2.1
  intro x1 S H locs ls h hw hl
  unfold wp_X7_isPath_45 at h
  refine lv_iconst (v := 0) hx hb dX7_isPath_45 (by decide) ?_
  replace hl := lv_sub hl [0] rfl
  exact hK46 x1 (0 : Int32) S _ _ _ h hw hl
set_option maxHeartbeats 4000000 in
set_option maxRecDepth 100000 in
theorem mb_X7_isPath_17 {p : Program} {l : Launch} {e : Env} {s : State} {m : MethodId} {args : Array Value} {below : List Frame} {meth : Method} {c : Code} {D : va_G} {ad : Nat → Nat} {cI cJ cZ : ClassId} {A : Nat → Prop} {post : Int32 → MS → Prop} (C0 : Cx p s m args meth c cX7_isPath 3 RX7 (some .boolean) D cI cJ cZ A) :
 ∀ (n : Nat) (x1 : Int32) (x2 : Int32) (S : MS) (H : Heap) (locs : List Loc) (ls : Array Slot), wp_X7_isPath_17 post n x1 x2 S → Wd (WM ad cI cJ cZ) D A s.heap H locs S → lv_has ls 3 [(1, .int x1), (2, .int x2)] → W p l e rm_X7_isPath s m args below meth c H locs 0 0 (QI (WM ad cI cJ cZ) D A s args below post) (F0 m 17 ls []) := by
  have hx := C0.1
  have hb := C0.2.1
  intro n
  induction n with
  | zero => intro x1 x2 S H locs ls h; exact h.elim
  | succ n ih =>
    intro x1 x2 S H locs ls h hw hl
    replace h : ws_X7_isPath_17 (wp_X7_isPath_17  post n)  post x1 x2 S := h
    unfold ws_X7_isPath_17 at h
    refine lv_iload_n hx hb dX7_isPath_17 rfl (lv_at hl 0 rfl) ?_
    refine lv_if_le (tgt := 55) hx hb dX7_isPath_18 (by decide) (fun c18 => ?_) (fun c18 => ?_)
    · have h := h.1 c18
      refine lv_iload_n hx hb dX7_isPath_55 rfl (lv_at hl 1 rfl) ?_
      exact rtZ C0 hw (isb_n h.1) h.2 dX7_isPath_56
    · have h := h.2 c18
      refine lv_iload_n hx hb dX7_isPath_21 rfl (lv_at hl 1 rfl) ?_
      refine lv_if_eq (tgt := 45) hx hb dX7_isPath_22 (by decide) (fun c22 => ?_) (fun c22 => ?_)
      · have h := h.1 c22
        replace hl := lv_sub hl [0] rfl
        exact mb_X7_isPath_45 C0 _ (fun x1 k0 S H locs ls h hw hl => mb_X7_isPath_46 C0 _ ih x1 k0 S _ _ ls h hw hl) x1 S _ _ ls h hw hl
      · have h := h.2 c22
        refine lv_iload_n hx hb dX7_isPath_25 rfl (lv_at hl 0 rfl) ?_
        refine lv_bipush (v := 8) hx hb dX7_isPath_26 (by decide) ?_
        refine lv_irem hx hb dX7_isPath_28 (by decide) ?_
        refine lv_if_le (tgt := 45) hx hb dX7_isPath_29 (by decide) (fun c29 => ?_) (fun c29 => ?_)
        · have h := h.1 c29
          replace hl := lv_sub hl [0] rfl
          exact mb_X7_isPath_45 C0 _ (fun x1 k0 S H locs ls h hw hl => mb_X7_isPath_46 C0 _ ih x1 k0 S _ _ ls h hw hl) x1 S _ _ ls h hw hl
        · have h := h.2 c29
          refine lv_iload_n hx hb dX7_isPath_32 rfl (lv_at hl 0 rfl) ?_
          refine lv_bipush (v := 8) hx hb dX7_isPath_33 (by decide) ?_
          refine lv_irem hx hb dX7_isPath_35 (by decide) ?_
          refine lv_bipush (v := 7) hx hb dX7_isPath_36 (by decide) ?_
          refine lv_icmp_ge (tgt := 45) hx hb dX7_isPath_38 (by decide) (fun c38 => ?_) (fun c38 => ?_)
          · have h := h.1 c38
            replace hl := lv_sub hl [0] rfl
            exact mb_X7_isPath_45 C0 _ (fun x1 k0 S H locs ls h hw hl => mb_X7_isPath_46 C0 _ ih x1 k0 S _ _ ls h hw hl) x1 S _ _ ls h hw hl
          · have h := h.2 c38
            refine lv_iconst (v := 1) hx hb dX7_isPath_41 (by decide) ?_
            refine lv_goto (tgt := 46) hx hb dX7_isPath_42 (by decide) ?_
            replace hl := lv_sub hl [0] rfl
            exact mb_X7_isPath_46 C0 _ ih x1 (1 : Int32) S _ _ ls h hw hl
set_option maxHeartbeats 4000000 in
set_option maxRecDepth 100000 in
theorem m_X7_isPath (l : Launch) (D : va_G) (ad : Nat → Nat) (cI cJ cZ : ClassId) (S : MS) (x0 : Int32) (post : Int32 → MS → Prop) (h : wp_X7_isPath S x0 post) : CI (WM ad cI cJ cZ) D cI cJ cZ l yX7_isPath (.code yX7_isPath cX7_isPath 3 (some .boolean) :: gt) rm_X7_isPath S [.int x0] post := by
  refine enI (by decide) (Nat.le_of_ble_eq_true rfl) ?_
  intro p e s m below meth c A ls C0 hw hl
  have C0 : Cx p s m _ meth c cX7_isPath 3 RX7 (some .boolean) D cI cJ cZ A := C0
  have hl : lv_has ls 3 [(0, .int x0)] := hl
  have hx := C0.1
  have hb := C0.2.1
  unfold wp_X7_isPath at h
  refine lv_iload_n hx hb dX7_isPath_0 rfl (lv_at hl 0 rfl) ?_
  refine lv_iconst (v := 0) hx hb dX7_isPath_1 (by decide) ?_
  refine lv_sipush (v := 4095) hx hb dX7_isPath_2 (by decide) ?_
  refine clSI (As := [.int x0, .int (0 : Int32), .int (4095 : Int32)]) (rest := []) C0 (m_X7_in l D ad cI cJ cZ S x0 (0 : Int32) (4095 : Int32) _ h) cal_X7_in kw_294 kw_293 rfl hl.1 rfl (Nat.le_of_ble_eq_true rfl) ⟨Nat.le_of_ble_eq_true rfl, Nat.le_of_ble_eq_true rfl⟩ rfl rfl dX7_isPath_5 hw (fun r5 S5 H locs h hw => ?_)
  replace h := h
  refine lv_if_ne (tgt := 13) hx hb dX7_isPath_8 (by decide) (fun c8 => ?_) (fun c8 => ?_)
  · have h := h.1 c8
    refine lv_iload_n hx hb dX7_isPath_13 rfl (lv_at hl 0 rfl) ?_
    refine lv_istore_n (lv' := [(1, .int x0), (0, .int x0)]) hx hb dX7_isPath_14 rfl hl (by decide) rfl (fun ls hl => ?_)
    refine lv_iconst (v := 1) hx hb dX7_isPath_15 (by decide) ?_
    refine lv_istore_n (lv' := [(2, .int (1 : Int32)), (1, .int x0), (0, .int x0)]) hx hb dX7_isPath_16 rfl hl (by decide) rfl (fun ls hl => ?_)
    replace hl := lv_sub hl [1, 0] rfl
    obtain ⟨n, h⟩ := h
    exact mb_X7_isPath_17 C0 n x0 (1 : Int32) S5 _ _ ls h hw hl
  · have h := h.2 c8
    refine lv_iconst (v := 0) hx hb dX7_isPath_11 (by decide) ?_
    exact rtZ C0 hw rfl h dX7_isPath_12
abbrev rm_X7_isPlace : Room := { frames := 2, cells := 0, slots := 0, locals := 44 }
set_option maxHeartbeats 4000000 in
set_option maxRecDepth 100000 in
theorem m_X7_isPlace (l : Launch) (D : va_G) (ad : Nat → Nat) (cI cJ cZ : ClassId) (S : MS) (x1 : Int32) (x2 : Int32) (post : Int32 → MS → Prop) (h : wp_X7_isPlace S x1 x2 post) : CI (WM ad cI cJ cZ) D cI cJ cZ l yX7_isPlace (.code yX7_isPlace cX7_isPlace 3 (some .boolean) :: gt) rm_X7_isPlace S [.ref (ad 0), .int x1, .int x2] post := by
  refine enI (by decide) (Nat.le_of_ble_eq_true rfl) ?_
  intro p e s m below meth c A ls C0 hw hl
  have C0 : Cx p s m _ meth c cX7_isPlace 3 RX7 (some .boolean) D cI cJ cZ A := C0
  have hl : lv_has ls 3 [(0, .ref (ad 0)), (1, .int x1), (2, .int x2)] := hl
  have hx := C0.1
  have hb := C0.2.1
  unfold wp_X7_isPlace at h
  refine lv_aload_n hx hb dX7_isPlace_0 rfl (lv_at hl 0 rfl) ?_
  refine lv_iload_n hx hb dX7_isPlace_1 rfl (lv_at hl 1 rfl) ?_
  refine clVI (As := [.int x1]) (rest := []) (ci := 6) (k := 0) C0 (m_X7_isVariable l D ad cI cJ cZ S x1 _ h) cal_X7_isVariable kw_297 kw_296 kw_295 rfl rfl rfl rfl hl.1 rfl (Nat.le_of_ble_eq_true rfl) ⟨Nat.le_of_ble_eq_true rfl, Nat.le_of_ble_eq_true rfl⟩ rfl rfl dX7_isPlace_2 hw (fun r2 S2 H locs h hw => ?_)
  replace h := h
  refine lv_if_eq (tgt := 15) hx hb dX7_isPlace_5 (by decide) (fun c5 => ?_) (fun c5 => ?_)
  · have h := h.1 c5
    refine lv_iconst (v := 0) hx hb dX7_isPlace_15 (by decide) ?_
    exact rtZ C0 hw rfl h dX7_isPlace_16
  · have h := h.2 c5
    refine lv_iload_n hx hb dX7_isPlace_8 rfl (lv_at hl 2 rfl) ?_
    refine clSI (As := [.int x2]) (rest := []) C0 (m_X7_isPath l D ad cI cJ cZ S2 x2 _ h) cal_X7_isPath kw_304 kw_303 rfl hl.1 rfl (Nat.le_of_ble_eq_true rfl) ⟨Nat.le_of_ble_eq_true rfl, Nat.le_of_ble_eq_true rfl⟩ rfl rfl dX7_isPlace_9 hw (fun r9 S9 H locs h hw => ?_)
    replace h := h
    refine lv_if_ne (tgt := 17) hx hb dX7_isPlace_12 (by decide) (fun c12 => ?_) (fun c12 => ?_)
    · have h := h.1 c12
      refine lv_aload_n hx hb dX7_isPlace_17 rfl (lv_at hl 0 rfl) ?_
      refine gf_X7_sort C0 hw dX7_isPlace_18 ?_
      refine lv_iload_n hx hb dX7_isPlace_21 rfl (lv_at hl 1 rfl) ?_
      refine ld_M_sort C0 hw h.1 dX7_isPlace_22 ?_
      have h := h.2
      refine lv_if_eq (tgt := 44) hx hb dX7_isPlace_23 (by decide) (fun c23 => ?_) (fun c23 => ?_)
      · have h := h.1 c23
        refine lv_aload_n hx hb dX7_isPlace_44 rfl (lv_at hl 0 rfl) ?_
        refine gf_X7_leaves C0 hw dX7_isPlace_45 ?_
        refine lv_iload_n hx hb dX7_isPlace_48 rfl (lv_at hl 1 rfl) ?_
        refine ld_M_lvs C0 hw h.1 dX7_isPlace_49 ?_
        have h := h.2
        refine lv_iconst (v := 1) hx hb dX7_isPlace_50 (by decide) ?_
        refine lv_icmp_eq (tgt := 71) hx hb dX7_isPlace_51 (by decide) (fun c51 => ?_) (fun c51 => ?_)
        · have h := h.1 c51
          refine lv_iconst (v := 1) hx hb dX7_isPlace_71 (by decide) ?_
          refine lv_goto (tgt := 76) hx hb dX7_isPlace_72 (by decide) ?_
          exact rtZ C0 hw rfl h dX7_isPlace_76
        · have h := h.2 c51
          refine lv_iload_n hx hb dX7_isPlace_54 rfl (lv_at hl 2 rfl) ?_
          refine lv_if_eq (tgt := 71) hx hb dX7_isPlace_55 (by decide) (fun c55 => ?_) (fun c55 => ?_)
          · have h := h.1 c55
            refine lv_iconst (v := 1) hx hb dX7_isPlace_71 (by decide) ?_
            refine lv_goto (tgt := 76) hx hb dX7_isPlace_72 (by decide) ?_
            exact rtZ C0 hw rfl h dX7_isPlace_76
          · have h := h.2 c55
            refine lv_iload_n hx hb dX7_isPlace_58 rfl (lv_at hl 2 rfl) ?_
            refine lv_bipush (v := 8) hx hb dX7_isPlace_59 (by decide) ?_
            refine lv_irem hx hb dX7_isPlace_61 (by decide) ?_
            refine lv_aload_n hx hb dX7_isPlace_62 rfl (lv_at hl 0 rfl) ?_
            refine gf_X7_leaves C0 hw dX7_isPlace_63 ?_
            refine lv_iload_n hx hb dX7_isPlace_66 rfl (lv_at hl 1 rfl) ?_
            refine ld_M_lvs C0 hw h.1 dX7_isPlace_67 ?_
            have h := h.2
            refine lv_icmp_gt (tgt := 75) hx hb dX7_isPlace_68 (by decide) (fun c68 => ?_) (fun c68 => ?_)
            · have h := h.1 c68
              refine lv_iconst (v := 0) hx hb dX7_isPlace_75 (by decide) ?_
              exact rtZ C0 hw rfl h dX7_isPlace_76
            · have h := h.2 c68
              refine lv_iconst (v := 1) hx hb dX7_isPlace_71 (by decide) ?_
              refine lv_goto (tgt := 76) hx hb dX7_isPlace_72 (by decide) ?_
              exact rtZ C0 hw rfl h dX7_isPlace_76
      · have h := h.2 c23
        refine lv_iload_n hx hb dX7_isPlace_26 rfl (lv_at hl 2 rfl) ?_
        refine lv_if_eq (tgt := 38) hx hb dX7_isPlace_27 (by decide) (fun c27 => ?_) (fun c27 => ?_)
        · have h := h.1 c27
          refine lv_iconst (v := 1) hx hb dX7_isPlace_38 (by decide) ?_
          refine lv_goto (tgt := 43) hx hb dX7_isPlace_39 (by decide) ?_
          exact rtZ C0 hw rfl h dX7_isPlace_43
        · have h := h.2 c27
          refine lv_iload_n hx hb dX7_isPlace_30 rfl (lv_at hl 2 rfl) ?_
          refine lv_bipush (v := 8) hx hb dX7_isPlace_31 (by decide) ?_
          refine lv_irem hx hb dX7_isPlace_33 (by decide) ?_
          refine lv_iconst (v := 5) hx hb dX7_isPlace_34 (by decide) ?_
          refine lv_icmp_ne (tgt := 42) hx hb dX7_isPlace_35 (by decide) (fun c35 => ?_) (fun c35 => ?_)
          · have h := h.1 c35
            refine lv_iconst (v := 0) hx hb dX7_isPlace_42 (by decide) ?_
            exact rtZ C0 hw rfl h dX7_isPlace_43
          · have h := h.2 c35
            refine lv_iconst (v := 1) hx hb dX7_isPlace_38 (by decide) ?_
            refine lv_goto (tgt := 43) hx hb dX7_isPlace_39 (by decide) ?_
            exact rtZ C0 hw rfl h dX7_isPlace_43
    · have h := h.2 c12
      refine lv_iconst (v := 0) hx hb dX7_isPlace_15 (by decide) ?_
      exact rtZ C0 hw rfl h dX7_isPlace_16
abbrev rm_X7_isWithin : Room := { frames := 0, cells := 0, slots := 0, locals := 0 }
set_option maxHeartbeats 4000000 in
set_option maxRecDepth 100000 in
theorem m_X7_isWithin (l : Launch) (D : va_G) (ad : Nat → Nat) (cI cJ cZ : ClassId) (S : MS) (x1 : Int32) (x2 : Int32) (post : Int32 → MS → Prop) (h : wp_X7_isWithin S x1 x2 post) : CI (WM ad cI cJ cZ) D cI cJ cZ l yX7_isWithin (.code yX7_isWithin cX7_isWithin 3 (some .boolean) :: gt) rm_X7_isWithin S [.ref (ad 0), .int x1, .int x2] post := by
  refine enI (by decide) (Nat.le_of_ble_eq_true rfl) ?_
  intro p e s m below meth c A ls C0 hw hl
  have C0 : Cx p s m _ meth c cX7_isWithin 3 RX7 (some .boolean) D cI cJ cZ A := C0
  have hl : lv_has ls 3 [(0, .ref (ad 0)), (1, .int x1), (2, .int x2)] := hl
  have hx := C0.1
  have hb := C0.2.1
  unfold wp_X7_isWithin at h
  refine lv_aload_n hx hb dX7_isWithin_0 rfl (lv_at hl 0 rfl) ?_
  refine gf_X7_leaves C0 hw dX7_isWithin_1 ?_
  refine lv_iload_n hx hb dX7_isWithin_4 rfl (lv_at hl 1 rfl) ?_
  refine ld_M_lvs C0 hw h.1 dX7_isWithin_5 ?_
  have h := h.2
  refine lv_iconst (v := 1) hx hb dX7_isWithin_6 (by decide) ?_
  refine lv_icmp_le (tgt := 24) hx hb dX7_isWithin_7 (by decide) (fun c7 => ?_) (fun c7 => ?_)
  · have h := h.1 c7
    refine lv_iload_n hx hb dX7_isWithin_24 rfl (lv_at hl 2 rfl) ?_
    refine lv_if_le (tgt := 32) hx hb dX7_isWithin_25 (by decide) (fun c25 => ?_) (fun c25 => ?_)
    · have h := h.1 c25
      refine lv_iconst (v := 0) hx hb dX7_isWithin_32 (by decide) ?_
      exact rtZ C0 hw rfl h dX7_isWithin_33
    · have h := h.2 c25
      refine lv_iconst (v := 1) hx hb dX7_isWithin_28 (by decide) ?_
      refine lv_goto (tgt := 33) hx hb dX7_isWithin_29 (by decide) ?_
      exact rtZ C0 hw rfl h dX7_isWithin_33
  · have h := h.2 c7
    refine lv_iload_n hx hb dX7_isWithin_10 rfl (lv_at hl 2 rfl) ?_
    refine lv_bipush (v := 8) hx hb dX7_isWithin_11 (by decide) ?_
    refine lv_icmp_lt (tgt := 20) hx hb dX7_isWithin_13 (by decide) (fun c13 => ?_) (fun c13 => ?_)
    · have h := h.1 c13
      refine lv_iconst (v := 0) hx hb dX7_isWithin_20 (by decide) ?_
      refine lv_goto (tgt := 33) hx hb dX7_isWithin_21 (by decide) ?_
      exact rtZ C0 hw rfl h dX7_isWithin_33
    · have h := h.2 c13
      refine lv_iconst (v := 1) hx hb dX7_isWithin_16 (by decide) ?_
      refine lv_goto (tgt := 33) hx hb dX7_isWithin_17 (by decide) ?_
      exact rtZ C0 hw rfl h dX7_isWithin_33
abbrev rm_X7_act : Room := { frames := 3, cells := 0, slots := 0, locals := 66 }
set_option maxHeartbeats 4000000 in
set_option maxRecDepth 100000 in
theorem mb_X7_act_130 {p : Program} {l : Launch} {e : Env} {s : State} {m : MethodId} {args : Array Value} {below : List Frame} {meth : Method} {c : Code} {D : va_G} {ad : Nat → Nat} {cI cJ cZ : ClassId} {A : Nat → Prop} {post : Int32 → MS → Prop} (C0 : Cx p s m args meth c cX7_act 5 RX7 (some .int) D cI cJ cZ A) :
 ∀ (x1 : Int32) (x2 : Int32) (x3 : Int32) (x4 : Int32) (S : MS) (H : Heap) (locs : List Loc) (ls : Array Slot), wp_X7_act_130 post x1 x2 x3 x4 S → Wd (WM ad cI cJ cZ) D A s.heap H locs S → lv_has ls 5 [(0, .ref (ad 0)), (1, .int x1), (2, .int x2), (3, .int x3), (4, .int x4)] → W p l e rm_X7_act s m args below meth c H locs 0 0 (QI (WM ad cI cJ cZ) D A s args below post) (F0 m 130 ls []) := by
  have hx := C0.1
  have hb := C0.2.1
  intro x1 x2 x3 x4 S H locs ls h hw hl
  unfold wp_X7_act_130 at h
  refine lv_aload_n hx hb dX7_act_130 rfl (lv_at hl 0 rfl) ?_
  refine lv_iload_n hx hb dX7_act_131 rfl (lv_at hl 1 rfl) ?_
  refine lv_iload_n hx hb dX7_act_132 rfl (lv_at hl 2 rfl) ?_
  refine lv_iload_n hx hb dX7_act_133 rfl (lv_at hl 3 rfl) ?_
  refine lv_iload hx hb dX7_act_134 (lv_at hl 4 rfl) ?_
  refine lv_iconst (v := -1) hx hb dX7_act_136 (by decide) ?_
  refine clVV (As := [.int x1, .int x2, .int x3, .int x4, .int (-1 : Int32)]) (rest := []) (ci := 6) (k := 0) C0 (m_X7_become l D ad cI cJ cZ S x1 x2 x3 x4 (-1 : Int32) _ h) cal_X7_become kw_300 kw_299 kw_298 rfl rfl rfl rfl hl.1 rfl (Nat.le_of_ble_eq_true rfl) ⟨Nat.le_of_ble_eq_true rfl, Nat.le_of_ble_eq_true rfl⟩ rfl rfl dX7_act_137 hw (fun S137 H locs h hw => ?_)
  replace h := h
  refine lv_iconst (v := 1) hx hb dX7_act_140 (by decide) ?_
  exact rtI C0 hw h dX7_act_141
set_option maxHeartbeats 4000000 in
set_option maxRecDepth 100000 in
theorem mb_X7_act_113 {p : Program} {l : Launch} {e : Env} {s : State} {m : MethodId} {args : Array Value} {below : List Frame} {meth : Method} {c : Code} {D : va_G} {ad : Nat → Nat} {cI cJ cZ : ClassId} {A : Nat → Prop} {post : Int32 → MS → Prop} (C0 : Cx p s m args meth c cX7_act 5 RX7 (some .int) D cI cJ cZ A) (K130 : Int32 → Int32 → Int32 → Int32 → MS → Prop) (hK130 : ∀ (x1 : Int32) (x2 : Int32) (x3 : Int32) (x4 : Int32) (S : MS) (H : Heap) (locs : List Loc) (ls : Array Slot), K130 x1 x2 x3 x4 S → Wd (WM ad cI cJ cZ) D A s.heap H locs S → lv_has ls 5 [(0, .ref (ad 0)), (1, .int x1), (2, .int x2), (3, .int x3), (4, .int x4)] → W p l e rm_X7_act s m args below meth c H locs 0 0 (QI (WM ad cI cJ cZ) D A s args below post) (F0 m 130 ls [])) :
 ∀ (x1 : Int32) (x2 : Int32) (x3 : Int32) (x4 : Int32) (S : MS) (H : Heap) (locs : List Loc) (ls : Array Slot), wp_X7_act_113 K130 post x1 x2 x3 x4 S → Wd (WM ad cI cJ cZ) D A s.heap H locs S → lv_has ls 5 [(0, .ref (ad 0)), (1, .int x1), (2, .int x2), (3, .int x3), (4, .int x4)] → W p l e rm_X7_act s m args below meth c H locs 0 0 (QI (WM ad cI cJ cZ) D A s args below post) (F0 m 113 ls []) := by
  have hx := C0.1
  have hb := C0.2.1
  intro x1 x2 x3 x4 S H locs ls h hw hl
  unfold wp_X7_act_113 at h
  refine lv_iload_n hx hb dX7_act_113 rfl (lv_at hl 2 rfl) ?_
  refine lv_iconst (v := 1) hx hb dX7_act_114 (by decide) ?_
  refine lv_icmp_eq (tgt := 130) hx hb dX7_act_115 (by decide) (fun c115 => ?_) (fun c115 => ?_)
  · have h := h.1 c115
    replace hl := lv_sub hl [0, 1, 2, 3, 4] rfl
    exact hK130 x1 x2 x3 x4 S _ _ _ h hw hl
  · have h := h.2 c115
    refine lv_aload_n hx hb dX7_act_118 rfl (lv_at hl 0 rfl) ?_
    refine gf_X7_sort C0 hw dX7_act_119 ?_
    refine lv_iload_n hx hb dX7_act_122 rfl (lv_at hl 3 rfl) ?_
    refine ld_M_sort C0 hw h.1 dX7_act_123 ?_
    have h := h.2
    refine lv_iconst (v := 1) hx hb dX7_act_124 (by decide) ?_
    refine lv_icmp_ne (tgt := 130) hx hb dX7_act_125 (by decide) (fun c125 => ?_) (fun c125 => ?_)
    · have h := h.1 c125
      replace hl := lv_sub hl [0, 1, 2, 3, 4] rfl
      exact hK130 x1 x2 x3 x4 S _ _ _ h hw hl
    · have h := h.2 c125
      refine lv_iconst (v := -1) hx hb dX7_act_128 (by decide) ?_
      exact rtI C0 hw h dX7_act_129
set_option maxHeartbeats 4000000 in
set_option maxRecDepth 100000 in
theorem m_X7_act (l : Launch) (D : va_G) (ad : Nat → Nat) (cI cJ cZ : ClassId) (S : MS) (x1 : Int32) (x2 : Int32) (x3 : Int32) (x4 : Int32) (post : Int32 → MS → Prop) (h : wp_X7_act S x1 x2 x3 x4 post) : CI (WM ad cI cJ cZ) D cI cJ cZ l yX7_act (.code yX7_act cX7_act 5 (some .int) :: gt) rm_X7_act S [.ref (ad 0), .int x1, .int x2, .int x3, .int x4] post := by
  refine enI (by decide) (Nat.le_of_ble_eq_true rfl) ?_
  intro p e s m below meth c A ls C0 hw hl
  have C0 : Cx p s m _ meth c cX7_act 5 RX7 (some .int) D cI cJ cZ A := C0
  have hl : lv_has ls 5 [(0, .ref (ad 0)), (1, .int x1), (2, .int x2), (3, .int x3), (4, .int x4)] := hl
  have hx := C0.1
  have hb := C0.2.1
  unfold wp_X7_act at h
  refine lv_iload_n hx hb dX7_act_0 rfl (lv_at hl 1 rfl) ?_
  refine clSI (As := [.int x1]) (rest := []) C0 (m_X7_isPoint l D ad cI cJ cZ S x1 _ h) cal_X7_isPoint kw_302 kw_301 rfl hl.1 rfl (Nat.le_of_ble_eq_true rfl) ⟨Nat.le_of_ble_eq_true rfl, Nat.le_of_ble_eq_true rfl⟩ rfl rfl dX7_act_1 hw (fun r1 S1 H locs h hw => ?_)
  replace h := h
  refine lv_if_eq (tgt := 17) hx hb dX7_act_4 (by decide) (fun c4 => ?_) (fun c4 => ?_)
  · have h := h.1 c4
    refine lv_iconst (v := -1) hx hb dX7_act_17 (by decide) ?_
    exact rtI C0 hw h dX7_act_18
  · have h := h.2 c4
    refine lv_iload_n hx hb dX7_act_7 rfl (lv_at hl 2 rfl) ?_
    refine lv_iconst (v := 0) hx hb dX7_act_8 (by decide) ?_
    refine lv_bipush (v := 6) hx hb dX7_act_9 (by decide) ?_
    refine clSI (As := [.int x2, .int (0 : Int32), .int (6 : Int32)]) (rest := []) C0 (m_X7_in l D ad cI cJ cZ S1 x2 (0 : Int32) (6 : Int32) _ h) cal_X7_in kw_294 kw_293 rfl hl.1 rfl (Nat.le_of_ble_eq_true rfl) ⟨Nat.le_of_ble_eq_true rfl, Nat.le_of_ble_eq_true rfl⟩ rfl rfl dX7_act_11 hw (fun r11 S11 H locs h hw => ?_)
    replace h := h
    refine lv_if_ne (tgt := 19) hx hb dX7_act_14 (by decide) (fun c14 => ?_) (fun c14 => ?_)
    · have h := h.1 c14
      refine lv_iload_n hx hb dX7_act_19 rfl (lv_at hl 2 rfl) ?_
      refine lv_if_ne (tgt := 34) hx hb dX7_act_20 (by decide) (fun c20 => ?_) (fun c20 => ?_)
      · have h := h.1 c20
        refine lv_iload_n hx hb dX7_act_34 rfl (lv_at hl 2 rfl) ?_
        refine lv_iconst (v := 5) hx hb dX7_act_35 (by decide) ?_
        refine lv_icmp_lt (tgt := 60) hx hb dX7_act_36 (by decide) (fun c36 => ?_) (fun c36 => ?_)
        · have h := h.1 c36
          refine lv_aload_n hx hb dX7_act_60 rfl (lv_at hl 0 rfl) ?_
          refine lv_iload_n hx hb dX7_act_61 rfl (lv_at hl 3 rfl) ?_
          refine lv_iload hx hb dX7_act_62 (lv_at hl 4 rfl) ?_
          refine clVI (As := [.int x3, .int x4]) (rest := []) (ci := 6) (k := 0) C0 (m_X7_isPlace l D ad cI cJ cZ S11 x3 x4 _ h) cal_X7_isPlace kw_307 kw_306 kw_305 rfl rfl rfl rfl hl.1 rfl (Nat.le_of_ble_eq_true rfl) ⟨Nat.le_of_ble_eq_true rfl, Nat.le_of_ble_eq_true rfl⟩ rfl rfl dX7_act_64 hw (fun r64 S64 H locs h hw => ?_)
          replace h := h
          refine lv_if_ne (tgt := 72) hx hb dX7_act_67 (by decide) (fun c67 => ?_) (fun c67 => ?_)
          · have h := h.1 c67
            refine lv_iload_n hx hb dX7_act_72 rfl (lv_at hl 2 rfl) ?_
            refine lv_iconst (v := 2) hx hb dX7_act_73 (by decide) ?_
            refine lv_icmp_ne (tgt := 99) hx hb dX7_act_74 (by decide) (fun c74 => ?_) (fun c74 => ?_)
            · have h := h.1 c74
              refine lv_aload_n hx hb dX7_act_99 rfl (lv_at hl 0 rfl) ?_
              refine gf_X7_sort C0 hw dX7_act_100 ?_
              refine lv_iload_n hx hb dX7_act_103 rfl (lv_at hl 3 rfl) ?_
              refine ld_M_sort C0 hw h.1 dX7_act_104 ?_
              have h := h.2
              refine lv_if_eq (tgt := 113) hx hb dX7_act_105 (by decide) (fun c105 => ?_) (fun c105 => ?_)
              · have h := h.1 c105
                replace hl := lv_sub hl [0, 1, 2, 3, 4] rfl
                exact mb_X7_act_113 C0 _ (fun x1 x2 x3 x4 S H locs ls h hw hl => mb_X7_act_130 C0 x1 x2 x3 x4 S _ _ ls h hw hl) x1 x2 x3 x4 S64 _ _ ls h hw hl
              · have h := h.2 c105
                refine lv_iload hx hb dX7_act_108 (lv_at hl 4 rfl) ?_
                refine lv_if_eq (tgt := 128) hx hb dX7_act_110 (by decide) (fun c110 => ?_) (fun c110 => ?_)
                · have h := h.1 c110
                  refine lv_iconst (v := -1) hx hb dX7_act_128 (by decide) ?_
                  exact rtI C0 hw h dX7_act_129
                · have h := h.2 c110
                  replace hl := lv_sub hl [0, 1, 2, 3, 4] rfl
                  exact mb_X7_act_113 C0 _ (fun x1 x2 x3 x4 S H locs ls h hw hl => mb_X7_act_130 C0 x1 x2 x3 x4 S _ _ ls h hw hl) x1 x2 x3 x4 S64 _ _ ls h hw hl
            · have h := h.2 c74
              refine lv_aload_n hx hb dX7_act_77 rfl (lv_at hl 0 rfl) ?_
              refine gf_X7_sort C0 hw dX7_act_78 ?_
              refine lv_iload_n hx hb dX7_act_81 rfl (lv_at hl 3 rfl) ?_
              refine ld_M_sort C0 hw h.1 dX7_act_82 ?_
              have h := h.2
              refine lv_if_ne (tgt := 128) hx hb dX7_act_83 (by decide) (fun c83 => ?_) (fun c83 => ?_)
              · have h := h.1 c83
                refine lv_iconst (v := -1) hx hb dX7_act_128 (by decide) ?_
                exact rtI C0 hw h dX7_act_129
              · have h := h.2 c83
                refine lv_aload_n hx hb dX7_act_86 rfl (lv_at hl 0 rfl) ?_
                refine lv_iload_n hx hb dX7_act_87 rfl (lv_at hl 3 rfl) ?_
                refine lv_iload hx hb dX7_act_88 (lv_at hl 4 rfl) ?_
                refine clVI (As := [.int x3, .int x4]) (rest := []) (ci := 6) (k := 0) C0 (m_X7_isWithin l D ad cI cJ cZ S64 x3 x4 _ h) cal_X7_isWithin kw_310 kw_309 kw_308 rfl rfl rfl rfl hl.1 rfl (Nat.le_of_ble_eq_true rfl) ⟨Nat.le_of_ble_eq_true rfl, Nat.le_of_ble_eq_true rfl⟩ rfl rfl dX7_act_90 hw (fun r90 S90 H locs h hw => ?_)
                replace h := h
                refine lv_if_eq (tgt := 130) hx hb dX7_act_93 (by decide) (fun c93 => ?_) (fun c93 => ?_)
                · have h := h.1 c93
                  replace hl := lv_sub hl [0, 1, 2, 3, 4] rfl
                  exact mb_X7_act_130 C0 x1 x2 x3 x4 S90 _ _ ls h hw hl
                · have h := h.2 c93
                  refine lv_goto (tgt := 128) hx hb dX7_act_96 (by decide) ?_
                  refine lv_iconst (v := -1) hx hb dX7_act_128 (by decide) ?_
                  exact rtI C0 hw h dX7_act_129
          · have h := h.2 c67
            refine lv_iconst (v := -1) hx hb dX7_act_70 (by decide) ?_
            exact rtI C0 hw h dX7_act_71
        · have h := h.2 c36
          refine lv_aload_n hx hb dX7_act_39 rfl (lv_at hl 0 rfl) ?_
          refine lv_iload_n hx hb dX7_act_40 rfl (lv_at hl 3 rfl) ?_
          refine clVI (As := [.int x3]) (rest := []) (ci := 6) (k := 0) C0 (m_X7_isVariable l D ad cI cJ cZ S11 x3 _ h) cal_X7_isVariable kw_297 kw_296 kw_295 rfl rfl rfl rfl hl.1 rfl (Nat.le_of_ble_eq_true rfl) ⟨Nat.le_of_ble_eq_true rfl, Nat.le_of_ble_eq_true rfl⟩ rfl rfl dX7_act_41 hw (fun r41 S41 H locs h hw => ?_)
          replace h := h
          refine lv_if_ne (tgt := 49) hx hb dX7_act_44 (by decide) (fun c44 => ?_) (fun c44 => ?_)
          · have h := h.1 c44
            refine lv_aload_n hx hb dX7_act_49 rfl (lv_at hl 0 rfl) ?_
            refine lv_iload_n hx hb dX7_act_50 rfl (lv_at hl 1 rfl) ?_
            refine lv_iload_n hx hb dX7_act_51 rfl (lv_at hl 2 rfl) ?_
            refine lv_iload_n hx hb dX7_act_52 rfl (lv_at hl 3 rfl) ?_
            refine lv_iconst (v := 0) hx hb dX7_act_53 (by decide) ?_
            refine lv_iconst (v := -1) hx hb dX7_act_54 (by decide) ?_
            refine clVV (As := [.int x1, .int x2, .int x3, .int (0 : Int32), .int (-1 : Int32)]) (rest := []) (ci := 6) (k := 0) C0 (m_X7_become l D ad cI cJ cZ S41 x1 x2 x3 (0 : Int32) (-1 : Int32) _ h) cal_X7_become kw_300 kw_299 kw_298 rfl rfl rfl rfl hl.1 rfl (Nat.le_of_ble_eq_true rfl) ⟨Nat.le_of_ble_eq_true rfl, Nat.le_of_ble_eq_true rfl⟩ rfl rfl dX7_act_55 hw (fun S55 H locs h hw => ?_)
            replace h := h
            refine lv_iconst (v := 1) hx hb dX7_act_58 (by decide) ?_
            exact rtI C0 hw h dX7_act_59
          · have h := h.2 c44
            refine lv_iconst (v := -1) hx hb dX7_act_47 (by decide) ?_
            exact rtI C0 hw h dX7_act_48
      · have h := h.2 c20
        refine lv_aload_n hx hb dX7_act_23 rfl (lv_at hl 0 rfl) ?_
        refine lv_iload_n hx hb dX7_act_24 rfl (lv_at hl 1 rfl) ?_
        refine lv_iload_n hx hb dX7_act_25 rfl (lv_at hl 2 rfl) ?_
        refine lv_iconst (v := -1) hx hb dX7_act_26 (by decide) ?_
        refine lv_iconst (v := 0) hx hb dX7_act_27 (by decide) ?_
        refine lv_iconst (v := -1) hx hb dX7_act_28 (by decide) ?_
        refine clVV (As := [.int x1, .int x2, .int (-1 : Int32), .int (0 : Int32), .int (-1 : Int32)]) (rest := []) (ci := 6) (k := 0) C0 (m_X7_become l D ad cI cJ cZ S11 x1 x2 (-1 : Int32) (0 : Int32) (-1 : Int32) _ h) cal_X7_become kw_300 kw_299 kw_298 rfl rfl rfl rfl hl.1 rfl (Nat.le_of_ble_eq_true rfl) ⟨Nat.le_of_ble_eq_true rfl, Nat.le_of_ble_eq_true rfl⟩ rfl rfl dX7_act_29 hw (fun S29 H locs h hw => ?_)
        replace h := h
        refine lv_iconst (v := 1) hx hb dX7_act_32 (by decide) ?_
        exact rtI C0 hw h dX7_act_33
    · have h := h.2 c14
      refine lv_iconst (v := -1) hx hb dX7_act_17 (by decide) ?_
      exact rtI C0 hw h dX7_act_18
abbrev rm_X7_isReference : Room := { frames := 2, cells := 0, slots := 0, locals := 43 }
set_option maxHeartbeats 4000000 in
set_option maxRecDepth 100000 in
theorem m_X7_isReference (l : Launch) (D : va_G) (ad : Nat → Nat) (cI cJ cZ : ClassId) (S : MS) (x1 : Int32) (post : Int32 → MS → Prop) (h : wp_X7_isReference S x1 post) : CI (WM ad cI cJ cZ) D cI cJ cZ l yX7_isReference (.code yX7_isReference cX7_isReference 2 (some .boolean) :: gt) rm_X7_isReference S [.ref (ad 0), .int x1] post := by
  refine enI (by decide) (Nat.le_of_ble_eq_true rfl) ?_
  intro p e s m below meth c A ls C0 hw hl
  have C0 : Cx p s m _ meth c cX7_isReference 2 RX7 (some .boolean) D cI cJ cZ A := C0
  have hl : lv_has ls 2 [(0, .ref (ad 0)), (1, .int x1)] := hl
  have hx := C0.1
  have hb := C0.2.1
  unfold wp_X7_isReference at h
  refine lv_aload_n hx hb dX7_isReference_0 rfl (lv_at hl 0 rfl) ?_
  refine lv_iload_n hx hb dX7_isReference_1 rfl (lv_at hl 1 rfl) ?_
  refine clVI (As := [.int x1]) (rest := []) (ci := 6) (k := 0) C0 (m_X7_isVariable l D ad cI cJ cZ S x1 _ h) cal_X7_isVariable kw_297 kw_296 kw_295 rfl rfl rfl rfl hl.1 rfl (Nat.le_of_ble_eq_true rfl) ⟨Nat.le_of_ble_eq_true rfl, Nat.le_of_ble_eq_true rfl⟩ rfl rfl dX7_isReference_2 hw (fun r2 S2 H locs h hw => ?_)
  replace h := h
  refine lv_if_eq (tgt := 21) hx hb dX7_isReference_5 (by decide) (fun c5 => ?_) (fun c5 => ?_)
  · have h := h.1 c5
    refine lv_iconst (v := 0) hx hb dX7_isReference_21 (by decide) ?_
    exact rtZ C0 hw rfl h dX7_isReference_22
  · have h := h.2 c5
    refine lv_aload_n hx hb dX7_isReference_8 rfl (lv_at hl 0 rfl) ?_
    refine gf_X7_sort C0 hw dX7_isReference_9 ?_
    refine lv_iload_n hx hb dX7_isReference_12 rfl (lv_at hl 1 rfl) ?_
    refine ld_M_sort C0 hw h.1 dX7_isReference_13 ?_
    have h := h.2
    refine lv_if_eq (tgt := 21) hx hb dX7_isReference_14 (by decide) (fun c14 => ?_) (fun c14 => ?_)
    · have h := h.1 c14
      refine lv_iconst (v := 0) hx hb dX7_isReference_21 (by decide) ?_
      exact rtZ C0 hw rfl h dX7_isReference_22
    · have h := h.2 c14
      refine lv_iconst (v := 1) hx hb dX7_isReference_17 (by decide) ?_
      refine lv_goto (tgt := 22) hx hb dX7_isReference_18 (by decide) ?_
      exact rtZ C0 hw rfl h dX7_isReference_22
abbrev rm_X7_lend : Room := { frames := 3, cells := 0, slots := 0, locals := 66 }
set_option maxHeartbeats 4000000 in
set_option maxRecDepth 100000 in
theorem mb_X7_lend_100 {p : Program} {l : Launch} {e : Env} {s : State} {m : MethodId} {args : Array Value} {below : List Frame} {meth : Method} {c : Code} {D : va_G} {ad : Nat → Nat} {cI cJ cZ : ClassId} {A : Nat → Prop} {post : Int32 → MS → Prop} (C0 : Cx p s m args meth c cX7_lend 7 RX7 (some .int) D cI cJ cZ A) (K67 : Int32 → Int32 → Int32 → Int32 → Int32 → Int32 → MS → Prop) (hK67 : ∀ (x1 : Int32) (x2 : Int32) (x3 : Int32) (x4 : Int32) (x5 : Int32) (x6 : Int32) (S : MS) (H : Heap) (locs : List Loc) (ls : Array Slot), K67 x1 x2 x3 x4 x5 x6 S → Wd (WM ad cI cJ cZ) D A s.heap H locs S → lv_has ls 7 [(0, .ref (ad 0)), (1, .int x1), (2, .int x2), (3, .int x3), (4, .int x4), (5, .int x5), (6, .int x6)] → W p l e rm_X7_lend s m args below meth c H locs 0 0 (QI (WM ad cI cJ cZ) D A s args below post) (F0 m 67 ls [])) :
 ∀ (x1 : Int32) (x2 : Int32) (x3 : Int32) (x4 : Int32) (x6 : Int32) (k0 : Int32) (k1 : Int32) (S : MS) (H : Heap) (locs : List Loc) (ls : Array Slot), wp_X7_lend_100 K67 post x1 x2 x3 x4 x6 k0 k1 S → Wd (WM ad cI cJ cZ) D A s.heap H locs S → lv_has ls 7 [(0, .ref (ad 0)), (1, .int x1), (2, .int x2), (3, .int x3), (4, .int x4), (6, .int x6)] → W p l e rm_X7_lend s m args below meth c H locs 0 0 (QI (WM ad cI cJ cZ) D A s args below post) (F0 m 100 ls [.int k0, .int k1]) := by
  have hx := C0.1
  have hb := C0.2.1
  intro x1 x2 x3 x4 x6 k0 k1 S H locs ls h hw hl
  unfold wp_X7_lend_100 at h
  refine lv_iadd hx hb dX7_lend_100 ?_
  refine lv_topi (fun x5_1 ex5_1 => ?_)
  have h := h x5_1 ex5_1
  refine lv_istore (lv' := [(5, .int x5_1), (0, .ref (ad 0)), (1, .int x1), (2, .int x2), (3, .int x3), (4, .int x4), (6, .int x6)]) hx hb dX7_lend_101 hl (by decide) rfl (fun ls hl => ?_)
  obtain ⟨x6_2, ex6_2⟩ : ∃ y : Int32, y = x6 + (1 : Int32) := ⟨_, rfl⟩
  refine lv_iinc (v := x6_2) (lv' := [(6, .int x6_2), (5, .int x5_1), (0, .ref (ad 0)), (1, .int x1), (2, .int x2), (3, .int x3), (4, .int x4)]) hx hb dX7_lend_103 hl (k := 6) rfl (by rw [ex6_2]; rfl) (by decide) rfl (fun ls hl => ?_)
  have h := h x6_2 ex6_2
  refine lv_goto (tgt := 67) hx hb dX7_lend_106 (by decide) ?_
  replace hl := lv_sub hl [2, 3, 4, 5, 6, 1, 0] rfl
  exact hK67 x1 x2 x3 x4 x5_1 x6_2 S _ _ _ h hw hl
set_option maxHeartbeats 4000000 in
set_option maxRecDepth 100000 in
theorem mb_X7_lend_99 {p : Program} {l : Launch} {e : Env} {s : State} {m : MethodId} {args : Array Value} {below : List Frame} {meth : Method} {c : Code} {D : va_G} {ad : Nat → Nat} {cI cJ cZ : ClassId} {A : Nat → Prop} {post : Int32 → MS → Prop} (C0 : Cx p s m args meth c cX7_lend 7 RX7 (some .int) D cI cJ cZ A) (K100 : Int32 → Int32 → Int32 → Int32 → Int32 → Int32 → Int32 → MS → Prop) (hK100 : ∀ (x1 : Int32) (x2 : Int32) (x3 : Int32) (x4 : Int32) (x6 : Int32) (k0 : Int32) (k1 : Int32) (S : MS) (H : Heap) (locs : List Loc) (ls : Array Slot), K100 x1 x2 x3 x4 x6 k0 k1 S → Wd (WM ad cI cJ cZ) D A s.heap H locs S → lv_has ls 7 [(0, .ref (ad 0)), (1, .int x1), (2, .int x2), (3, .int x3), (4, .int x4), (6, .int x6)] → W p l e rm_X7_lend s m args below meth c H locs 0 0 (QI (WM ad cI cJ cZ) D A s args below post) (F0 m 100 ls [.int k0, .int k1])) :
 ∀ (x1 : Int32) (x2 : Int32) (x3 : Int32) (x4 : Int32) (x6 : Int32) (k0 : Int32) (S : MS) (H : Heap) (locs : List Loc) (ls : Array Slot), wp_X7_lend_99 K100 post x1 x2 x3 x4 x6 k0 S → Wd (WM ad cI cJ cZ) D A s.heap H locs S → lv_has ls 7 [(0, .ref (ad 0)), (1, .int x1), (2, .int x2), (3, .int x3), (4, .int x4), (6, .int x6)] → W p l e rm_X7_lend s m args below meth c H locs 0 0 (QI (WM ad cI cJ cZ) D A s args below post) (F0 m 99 ls [.int k0]) := by
  have hx := C0.1
  have hb := C0.2.1
  intro x1 x2 x3 x4 x6 k0 S H locs ls h hw hl
  unfold wp_X7_lend_99 at h
  refine lv_iconst (v := 0) hx hb dX7_lend_99 (by decide) ?_
  replace hl := lv_sub hl [0, 1, 2, 3, 4, 5] rfl
  exact hK100 x1 x2 x3 x4 x6 (0 : Int32) k0 S _ _ _ h hw hl
set_option maxHeartbeats 4000000 in
set_option maxRecDepth 100000 in
theorem mb_X7_lend_67 {p : Program} {l : Launch} {e : Env} {s : State} {m : MethodId} {args : Array Value} {below : List Frame} {meth : Method} {c : Code} {D : va_G} {ad : Nat → Nat} {cI cJ cZ : ClassId} {A : Nat → Prop} {post : Int32 → MS → Prop} (C0 : Cx p s m args meth c cX7_lend 7 RX7 (some .int) D cI cJ cZ A) :
 ∀ (n : Nat) (x1 : Int32) (x2 : Int32) (x3 : Int32) (x4 : Int32) (x5 : Int32) (x6 : Int32) (S : MS) (H : Heap) (locs : List Loc) (ls : Array Slot), wp_X7_lend_67 post n x1 x2 x3 x4 x5 x6 S → Wd (WM ad cI cJ cZ) D A s.heap H locs S → lv_has ls 7 [(0, .ref (ad 0)), (1, .int x1), (2, .int x2), (3, .int x3), (4, .int x4), (5, .int x5), (6, .int x6)] → W p l e rm_X7_lend s m args below meth c H locs 0 0 (QI (WM ad cI cJ cZ) D A s args below post) (F0 m 67 ls []) := by
  have hx := C0.1
  have hb := C0.2.1
  intro n
  induction n with
  | zero => intro x1 x2 x3 x4 x5 x6 S H locs ls h; exact h.elim
  | succ n ih =>
    intro x1 x2 x3 x4 x5 x6 S H locs ls h hw hl
    replace h : ws_X7_lend_67 (wp_X7_lend_67  post n)  post x1 x2 x3 x4 x5 x6 S := h
    unfold ws_X7_lend_67 at h
    refine lv_iload hx hb dX7_lend_67 (lv_at hl 6 rfl) ?_
    refine lv_sipush (v := 150) hx hb dX7_lend_69 (by decide) ?_
    refine lv_icmp_ge (tgt := 109) hx hb dX7_lend_72 (by decide) (fun c72 => ?_) (fun c72 => ?_)
    · have h := h.1 c72
      refine lv_iload hx hb dX7_lend_109 (lv_at hl 5 rfl) ?_
      refine lv_bipush (v := 60) hx hb dX7_lend_111 (by decide) ?_
      refine lv_icmp_lt (tgt := 118) hx hb dX7_lend_113 (by decide) (fun c113 => ?_) (fun c113 => ?_)
      · have h := h.1 c113
        refine lv_aload_n hx hb dX7_lend_118 rfl (lv_at hl 0 rfl) ?_
        refine lv_iload_n hx hb dX7_lend_119 rfl (lv_at hl 1 rfl) ?_
        refine lv_bipush (v := 7) hx hb dX7_lend_120 (by decide) ?_
        refine lv_iload_n hx hb dX7_lend_122 rfl (lv_at hl 3 rfl) ?_
        refine lv_iload hx hb dX7_lend_123 (lv_at hl 4 rfl) ?_
        refine lv_iload_n hx hb dX7_lend_125 rfl (lv_at hl 2 rfl) ?_
        refine clVV (As := [.int x1, .int (7 : Int32), .int x3, .int x4, .int x2]) (rest := []) (ci := 6) (k := 0) C0 (m_X7_become l D ad cI cJ cZ S x1 (7 : Int32) x3 x4 x2 _ h) cal_X7_become kw_300 kw_299 kw_298 rfl rfl rfl rfl hl.1 rfl (Nat.le_of_ble_eq_true rfl) ⟨Nat.le_of_ble_eq_true rfl, Nat.le_of_ble_eq_true rfl⟩ rfl rfl dX7_lend_126 hw (fun S126 H locs h hw => ?_)
        replace h := h
        refine lv_iconst (v := 1) hx hb dX7_lend_129 (by decide) ?_
        exact rtI C0 hw h dX7_lend_130
      · have h := h.2 c113
        refine lv_iconst (v := -1) hx hb dX7_lend_116 (by decide) ?_
        exact rtI C0 hw h dX7_lend_117
    · have h := h.2 c72
      refine lv_iload hx hb dX7_lend_75 (lv_at hl 5 rfl) ?_
      refine lv_iload hx hb dX7_lend_77 (lv_at hl 6 rfl) ?_
      refine lv_iload_n hx hb dX7_lend_79 rfl (lv_at hl 1 rfl) ?_
      refine lv_icmp_eq (tgt := 99) hx hb dX7_lend_80 (by decide) (fun c80 => ?_) (fun c80 => ?_)
      · have h := h.1 c80
        replace hl := lv_sub hl [0, 1, 2, 3, 4, 6] rfl
        exact mb_X7_lend_99 C0 _ (fun x1 x2 x3 x4 x6 k0 k1 S H locs ls h hw hl => mb_X7_lend_100 C0 _ ih x1 x2 x3 x4 x6 k0 k1 S _ _ ls h hw hl) x1 x2 x3 x4 x6 x5 S _ _ ls h hw hl
      · have h := h.2 c80
        refine lv_aload_n hx hb dX7_lend_83 rfl (lv_at hl 0 rfl) ?_
        refine gf_X7_acts C0 hw dX7_lend_84 ?_
        refine lv_iload hx hb dX7_lend_87 (lv_at hl 6 rfl) ?_
        refine ld_M_acts C0 hw h.1 dX7_lend_89 ?_
        have h := h.2
        refine lv_bipush (v := 7) hx hb dX7_lend_90 (by decide) ?_
        refine lv_icmp_ne (tgt := 99) hx hb dX7_lend_92 (by decide) (fun c92 => ?_) (fun c92 => ?_)
        · have h := h.1 c92
          replace hl := lv_sub hl [0, 1, 2, 3, 4, 6] rfl
          exact mb_X7_lend_99 C0 _ (fun x1 x2 x3 x4 x6 k0 k1 S H locs ls h hw hl => mb_X7_lend_100 C0 _ ih x1 x2 x3 x4 x6 k0 k1 S _ _ ls h hw hl) x1 x2 x3 x4 x6 x5 S _ _ ls h hw hl
        · have h := h.2 c92
          refine lv_iconst (v := 1) hx hb dX7_lend_95 (by decide) ?_
          refine lv_goto (tgt := 100) hx hb dX7_lend_96 (by decide) ?_
          replace hl := lv_sub hl [0, 1, 2, 3, 4, 6] rfl
          exact mb_X7_lend_100 C0 _ ih x1 x2 x3 x4 x6 (1 : Int32) x5 S _ _ ls h hw hl
set_option maxHeartbeats 4000000 in
set_option maxRecDepth 100000 in
theorem mb_X7_lend_61 {p : Program} {l : Launch} {e : Env} {s : State} {m : MethodId} {args : Array Value} {below : List Frame} {meth : Method} {c : Code} {D : va_G} {ad : Nat → Nat} {cI cJ cZ : ClassId} {A : Nat → Prop} {post : Int32 → MS → Prop} (C0 : Cx p s m args meth c cX7_lend 7 RX7 (some .int) D cI cJ cZ A) :
 ∀ (x1 : Int32) (x2 : Int32) (x3 : Int32) (x4 : Int32) (S : MS) (H : Heap) (locs : List Loc) (ls : Array Slot), wp_X7_lend_61 post x1 x2 x3 x4 S → Wd (WM ad cI cJ cZ) D A s.heap H locs S → lv_has ls 7 [(0, .ref (ad 0)), (1, .int x1), (2, .int x2), (3, .int x3), (4, .int x4)] → W p l e rm_X7_lend s m args below meth c H locs 0 0 (QI (WM ad cI cJ cZ) D A s args below post) (F0 m 61 ls []) := by
  have hx := C0.1
  have hb := C0.2.1
  intro x1 x2 x3 x4 S H locs ls h hw hl
  unfold wp_X7_lend_61 at h
  refine lv_iconst (v := 0) hx hb dX7_lend_61 (by decide) ?_
  refine lv_istore (lv' := [(5, .int (0 : Int32)), (0, .ref (ad 0)), (1, .int x1), (2, .int x2), (3, .int x3), (4, .int x4)]) hx hb dX7_lend_62 hl (by decide) rfl (fun ls hl => ?_)
  refine lv_iconst (v := 0) hx hb dX7_lend_64 (by decide) ?_
  refine lv_istore (lv' := [(6, .int (0 : Int32)), (5, .int (0 : Int32)), (0, .ref (ad 0)), (1, .int x1), (2, .int x2), (3, .int x3), (4, .int x4)]) hx hb dX7_lend_65 hl (by decide) rfl (fun ls hl => ?_)
  replace hl := lv_sub hl [2, 3, 4, 5, 6, 1, 0] rfl
  obtain ⟨n, h⟩ := h
  exact mb_X7_lend_67 C0 n x1 x2 x3 x4 (0 : Int32) (0 : Int32) S _ _ ls h hw hl
set_option maxHeartbeats 4000000 in
set_option maxRecDepth 100000 in
theorem mb_X7_lend_39 {p : Program} {l : Launch} {e : Env} {s : State} {m : MethodId} {args : Array Value} {below : List Frame} {meth : Method} {c : Code} {D : va_G} {ad : Nat → Nat} {cI cJ cZ : ClassId} {A : Nat → Prop} {post : Int32 → MS → Prop} (C0 : Cx p s m args meth c cX7_lend 7 RX7 (some .int) D cI cJ cZ A) :
 ∀ (x1 : Int32) (x2 : Int32) (x3 : Int32) (x4 : Int32) (S : MS) (H : Heap) (locs : List Loc) (ls : Array Slot), wp_X7_lend_39 post x1 x2 x3 x4 S → Wd (WM ad cI cJ cZ) D A s.heap H locs S → lv_has ls 7 [(0, .ref (ad 0)), (1, .int x1), (2, .int x2), (3, .int x3), (4, .int x4)] → W p l e rm_X7_lend s m args below meth c H locs 0 0 (QI (WM ad cI cJ cZ) D A s args below post) (F0 m 39 ls []) := by
  have hx := C0.1
  have hb := C0.2.1
  intro x1 x2 x3 x4 S H locs ls h hw hl
  unfold wp_X7_lend_39 at h
  refine lv_aload_n hx hb dX7_lend_39 rfl (lv_at hl 0 rfl) ?_
  refine gf_X7_sort C0 hw dX7_lend_40 ?_
  refine lv_iload_n hx hb dX7_lend_43 rfl (lv_at hl 2 rfl) ?_
  refine ld_M_sort C0 hw h.1 dX7_lend_44 ?_
  have h := h.2
  refine lv_iconst (v := 2) hx hb dX7_lend_45 (by decide) ?_
  refine lv_icmp_ne (tgt := 61) hx hb dX7_lend_46 (by decide) (fun c46 => ?_) (fun c46 => ?_)
  · have h := h.1 c46
    replace hl := lv_sub hl [0, 1, 2, 3, 4] rfl
    exact mb_X7_lend_61 C0 x1 x2 x3 x4 S _ _ ls h hw hl
  · have h := h.2 c46
    refine lv_aload_n hx hb dX7_lend_49 rfl (lv_at hl 0 rfl) ?_
    refine gf_X7_sort C0 hw dX7_lend_50 ?_
    refine lv_iload_n hx hb dX7_lend_53 rfl (lv_at hl 3 rfl) ?_
    refine ld_M_sort C0 hw h.1 dX7_lend_54 ?_
    have h := h.2
    refine lv_iconst (v := 1) hx hb dX7_lend_55 (by decide) ?_
    refine lv_icmp_ne (tgt := 61) hx hb dX7_lend_56 (by decide) (fun c56 => ?_) (fun c56 => ?_)
    · have h := h.1 c56
      replace hl := lv_sub hl [0, 1, 2, 3, 4] rfl
      exact mb_X7_lend_61 C0 x1 x2 x3 x4 S _ _ ls h hw hl
    · have h := h.2 c56
      refine lv_iconst (v := -1) hx hb dX7_lend_59 (by decide) ?_
      exact rtI C0 hw h dX7_lend_60
set_option maxHeartbeats 4000000 in
set_option maxRecDepth 100000 in
theorem m_X7_lend (l : Launch) (D : va_G) (ad : Nat → Nat) (cI cJ cZ : ClassId) (S : MS) (x1 : Int32) (x2 : Int32) (x3 : Int32) (x4 : Int32) (post : Int32 → MS → Prop) (h : wp_X7_lend S x1 x2 x3 x4 post) : CI (WM ad cI cJ cZ) D cI cJ cZ l yX7_lend (.code yX7_lend cX7_lend 7 (some .int) :: gt) rm_X7_lend S [.ref (ad 0), .int x1, .int x2, .int x3, .int x4] post := by
  refine enI (by decide) (Nat.le_of_ble_eq_true rfl) ?_
  intro p e s m below meth c A ls C0 hw hl
  have C0 : Cx p s m _ meth c cX7_lend 7 RX7 (some .int) D cI cJ cZ A := C0
  have hl : lv_has ls 7 [(0, .ref (ad 0)), (1, .int x1), (2, .int x2), (3, .int x3), (4, .int x4)] := hl
  have hx := C0.1
  have hb := C0.2.1
  unfold wp_X7_lend at h
  refine lv_iload_n hx hb dX7_lend_0 rfl (lv_at hl 1 rfl) ?_
  refine clSI (As := [.int x1]) (rest := []) C0 (m_X7_isPoint l D ad cI cJ cZ S x1 _ h) cal_X7_isPoint kw_302 kw_301 rfl hl.1 rfl (Nat.le_of_ble_eq_true rfl) ⟨Nat.le_of_ble_eq_true rfl, Nat.le_of_ble_eq_true rfl⟩ rfl rfl dX7_lend_1 hw (fun r1 S1 H locs h hw => ?_)
  replace h := h
  refine lv_if_eq (tgt := 59) hx hb dX7_lend_4 (by decide) (fun c4 => ?_) (fun c4 => ?_)
  · have h := h.1 c4
    refine lv_iconst (v := -1) hx hb dX7_lend_59 (by decide) ?_
    exact rtI C0 hw h dX7_lend_60
  · have h := h.2 c4
    refine lv_aload_n hx hb dX7_lend_7 rfl (lv_at hl 0 rfl) ?_
    refine lv_iload_n hx hb dX7_lend_8 rfl (lv_at hl 2 rfl) ?_
    refine clVI (As := [.int x2]) (rest := []) (ci := 6) (k := 0) C0 (m_X7_isReference l D ad cI cJ cZ S1 x2 _ h) cal_X7_isReference kw_313 kw_312 kw_311 rfl rfl rfl rfl hl.1 rfl (Nat.le_of_ble_eq_true rfl) ⟨Nat.le_of_ble_eq_true rfl, Nat.le_of_ble_eq_true rfl⟩ rfl rfl dX7_lend_9 hw (fun r9 S9 H locs h hw => ?_)
    replace h := h
    refine lv_if_eq (tgt := 59) hx hb dX7_lend_12 (by decide) (fun c12 => ?_) (fun c12 => ?_)
    · have h := h.1 c12
      refine lv_iconst (v := -1) hx hb dX7_lend_59 (by decide) ?_
      exact rtI C0 hw h dX7_lend_60
    · have h := h.2 c12
      refine lv_aload_n hx hb dX7_lend_15 rfl (lv_at hl 0 rfl) ?_
      refine lv_iload_n hx hb dX7_lend_16 rfl (lv_at hl 3 rfl) ?_
      refine lv_iload hx hb dX7_lend_17 (lv_at hl 4 rfl) ?_
      refine clVI (As := [.int x3, .int x4]) (rest := []) (ci := 6) (k := 0) C0 (m_X7_isPlace l D ad cI cJ cZ S9 x3 x4 _ h) cal_X7_isPlace kw_307 kw_306 kw_305 rfl rfl rfl rfl hl.1 rfl (Nat.le_of_ble_eq_true rfl) ⟨Nat.le_of_ble_eq_true rfl, Nat.le_of_ble_eq_true rfl⟩ rfl rfl dX7_lend_19 hw (fun r19 S19 H locs h hw => ?_)
      replace h := h
      refine lv_if_eq (tgt := 59) hx hb dX7_lend_22 (by decide) (fun c22 => ?_) (fun c22 => ?_)
      · have h := h.1 c22
        refine lv_iconst (v := -1) hx hb dX7_lend_59 (by decide) ?_
        exact rtI C0 hw h dX7_lend_60
      · have h := h.2 c22
        refine lv_aload_n hx hb dX7_lend_25 rfl (lv_at hl 0 rfl) ?_
        refine gf_X7_sort C0 hw dX7_lend_26 ?_
        refine lv_iload_n hx hb dX7_lend_29 rfl (lv_at hl 3 rfl) ?_
        refine ld_M_sort C0 hw h.1 dX7_lend_30 ?_
        have h := h.2
        refine lv_if_eq (tgt := 39) hx hb dX7_lend_31 (by decide) (fun c31 => ?_) (fun c31 => ?_)
        · have h := h.1 c31
          replace hl := lv_sub hl [0, 1, 2, 3, 4] rfl
          exact mb_X7_lend_39 C0 x1 x2 x3 x4 S19 _ _ ls h hw hl
        · have h := h.2 c31
          refine lv_iload hx hb dX7_lend_34 (lv_at hl 4 rfl) ?_
          refine lv_if_eq (tgt := 59) hx hb dX7_lend_36 (by decide) (fun c36 => ?_) (fun c36 => ?_)
          · have h := h.1 c36
            refine lv_iconst (v := -1) hx hb dX7_lend_59 (by decide) ?_
            exact rtI C0 hw h dX7_lend_60
          · have h := h.2 c36
            replace hl := lv_sub hl [0, 1, 2, 3, 4] rfl
            exact mb_X7_lend_39 C0 x1 x2 x3 x4 S19 _ _ ls h hw hl
abbrev rm_X7_copy : Room := { frames := 3, cells := 0, slots := 0, locals := 64 }
set_option maxHeartbeats 4000000 in
set_option maxRecDepth 100000 in
theorem m_X7_copy (l : Launch) (D : va_G) (ad : Nat → Nat) (cI cJ cZ : ClassId) (S : MS) (x1 : Int32) (x2 : Int32) (x3 : Int32) (post : Int32 → MS → Prop) (h : wp_X7_copy S x1 x2 x3 post) : CI (WM ad cI cJ cZ) D cI cJ cZ l yX7_copy (.code yX7_copy cX7_copy 4 (some .int) :: gt) rm_X7_copy S [.ref (ad 0), .int x1, .int x2, .int x3] post := by
  refine enI (by decide) (Nat.le_of_ble_eq_true rfl) ?_
  intro p e s m below meth c A ls C0 hw hl
  have C0 : Cx p s m _ meth c cX7_copy 4 RX7 (some .int) D cI cJ cZ A := C0
  have hl : lv_has ls 4 [(0, .ref (ad 0)), (1, .int x1), (2, .int x2), (3, .int x3)] := hl
  have hx := C0.1
  have hb := C0.2.1
  unfold wp_X7_copy at h
  refine lv_iload_n hx hb dX7_copy_0 rfl (lv_at hl 1 rfl) ?_
  refine clSI (As := [.int x1]) (rest := []) C0 (m_X7_isPoint l D ad cI cJ cZ S x1 _ h) cal_X7_isPoint kw_302 kw_301 rfl hl.1 rfl (Nat.le_of_ble_eq_true rfl) ⟨Nat.le_of_ble_eq_true rfl, Nat.le_of_ble_eq_true rfl⟩ rfl rfl dX7_copy_1 hw (fun r1 S1 H locs h hw => ?_)
  replace h := h
  refine lv_if_eq (tgt := 43) hx hb dX7_copy_4 (by decide) (fun c4 => ?_) (fun c4 => ?_)
  · have h := h.1 c4
    refine lv_iconst (v := -1) hx hb dX7_copy_43 (by decide) ?_
    exact rtI C0 hw h dX7_copy_44
  · have h := h.2 c4
    refine lv_aload_n hx hb dX7_copy_7 rfl (lv_at hl 0 rfl) ?_
    refine lv_iload_n hx hb dX7_copy_8 rfl (lv_at hl 2 rfl) ?_
    refine clVI (As := [.int x2]) (rest := []) (ci := 6) (k := 0) C0 (m_X7_isReference l D ad cI cJ cZ S1 x2 _ h) cal_X7_isReference kw_313 kw_312 kw_311 rfl rfl rfl rfl hl.1 rfl (Nat.le_of_ble_eq_true rfl) ⟨Nat.le_of_ble_eq_true rfl, Nat.le_of_ble_eq_true rfl⟩ rfl rfl dX7_copy_9 hw (fun r9 S9 H locs h hw => ?_)
    replace h := h
    refine lv_if_eq (tgt := 43) hx hb dX7_copy_12 (by decide) (fun c12 => ?_) (fun c12 => ?_)
    · have h := h.1 c12
      refine lv_iconst (v := -1) hx hb dX7_copy_43 (by decide) ?_
      exact rtI C0 hw h dX7_copy_44
    · have h := h.2 c12
      refine lv_aload_n hx hb dX7_copy_15 rfl (lv_at hl 0 rfl) ?_
      refine lv_iload_n hx hb dX7_copy_16 rfl (lv_at hl 3 rfl) ?_
      refine clVI (As := [.int x3]) (rest := []) (ci := 6) (k := 0) C0 (m_X7_isReference l D ad cI cJ cZ S9 x3 _ h) cal_X7_isReference kw_313 kw_312 kw_311 rfl rfl rfl rfl hl.1 rfl (Nat.le_of_ble_eq_true rfl) ⟨Nat.le_of_ble_eq_true rfl, Nat.le_of_ble_eq_true rfl⟩ rfl rfl dX7_copy_17 hw (fun r17 S17 H locs h hw => ?_)
      replace h := h
      refine lv_if_eq (tgt := 43) hx hb dX7_copy_20 (by decide) (fun c20 => ?_) (fun c20 => ?_)
      · have h := h.1 c20
        refine lv_iconst (v := -1) hx hb dX7_copy_43 (by decide) ?_
        exact rtI C0 hw h dX7_copy_44
      · have h := h.2 c20
        refine lv_iload_n hx hb dX7_copy_23 rfl (lv_at hl 2 rfl) ?_
        refine lv_iload_n hx hb dX7_copy_24 rfl (lv_at hl 3 rfl) ?_
        refine lv_icmp_eq (tgt := 43) hx hb dX7_copy_25 (by decide) (fun c25 => ?_) (fun c25 => ?_)
        · have h := h.1 c25
          refine lv_iconst (v := -1) hx hb dX7_copy_43 (by decide) ?_
          exact rtI C0 hw h dX7_copy_44
        · have h := h.2 c25
          refine lv_aload_n hx hb dX7_copy_28 rfl (lv_at hl 0 rfl) ?_
          refine gf_X7_sort C0 hw dX7_copy_29 ?_
          refine lv_iload_n hx hb dX7_copy_32 rfl (lv_at hl 2 rfl) ?_
          refine ld_M_sort C0 hw h.1 dX7_copy_33 ?_
          have h := h.2
          refine lv_aload_n hx hb dX7_copy_34 rfl (lv_at hl 0 rfl) ?_
          refine gf_X7_sort C0 hw dX7_copy_35 ?_
          refine lv_iload_n hx hb dX7_copy_38 rfl (lv_at hl 3 rfl) ?_
          refine ld_M_sort C0 hw h.1 dX7_copy_39 ?_
          have h := h.2
          refine lv_icmp_eq (tgt := 45) hx hb dX7_copy_40 (by decide) (fun c40 => ?_) (fun c40 => ?_)
          · have h := h.1 c40
            refine lv_aload_n hx hb dX7_copy_45 rfl (lv_at hl 0 rfl) ?_
            refine lv_iload_n hx hb dX7_copy_46 rfl (lv_at hl 1 rfl) ?_
            refine lv_bipush (v := 8) hx hb dX7_copy_47 (by decide) ?_
            refine lv_iload_n hx hb dX7_copy_49 rfl (lv_at hl 3 rfl) ?_
            refine lv_iconst (v := 0) hx hb dX7_copy_50 (by decide) ?_
            refine lv_iload_n hx hb dX7_copy_51 rfl (lv_at hl 2 rfl) ?_
            refine clVV (As := [.int x1, .int (8 : Int32), .int x3, .int (0 : Int32), .int x2]) (rest := []) (ci := 6) (k := 0) C0 (m_X7_become l D ad cI cJ cZ S17 x1 (8 : Int32) x3 (0 : Int32) x2 _ h) cal_X7_become kw_300 kw_299 kw_298 rfl rfl rfl rfl hl.1 rfl (Nat.le_of_ble_eq_true rfl) ⟨Nat.le_of_ble_eq_true rfl, Nat.le_of_ble_eq_true rfl⟩ rfl rfl dX7_copy_52 hw (fun S52 H locs h hw => ?_)
            replace h := h
            refine lv_iconst (v := 1) hx hb dX7_copy_55 (by decide) ?_
            exact rtI C0 hw h dX7_copy_56
          · have h := h.2 c40
            refine lv_iconst (v := -1) hx hb dX7_copy_43 (by decide) ?_
            exact rtI C0 hw h dX7_copy_44
abbrev rm_X7_next : Room := { frames := 2, cells := 0, slots := 0, locals := 42 }
set_option maxHeartbeats 4000000 in
set_option maxRecDepth 100000 in
theorem mb_X7_next_69 {p : Program} {l : Launch} {e : Env} {s : State} {m : MethodId} {args : Array Value} {below : List Frame} {meth : Method} {c : Code} {D : va_G} {ad : Nat → Nat} {cI cJ cZ : ClassId} {A : Nat → Prop} {post : Int32 → MS → Prop} (C0 : Cx p s m args meth c cX7_next 7 RX7 (some .int) D cI cJ cZ A) (K25 : Int32 → Int32 → Int32 → Int32 → Int32 → Int32 → MS → Prop) (hK25 : ∀ (x1 : Int32) (x2 : Int32) (x3 : Int32) (x4 : Int32) (x5 : Int32) (x6 : Int32) (S : MS) (H : Heap) (locs : List Loc) (ls : Array Slot), K25 x1 x2 x3 x4 x5 x6 S → Wd (WM ad cI cJ cZ) D A s.heap H locs S → lv_has ls 7 [(0, .ref (ad 0)), (1, .int x1), (2, .int x2), (3, .int x3), (4, .int x4), (5, .int x5), (6, .int x6)] → W p l e rm_X7_next s m args below meth c H locs 0 0 (QI (WM ad cI cJ cZ) D A s args below post) (F0 m 25 ls [])) :
 ∀ (x1 : Int32) (x2 : Int32) (x3 : Int32) (x4 : Int32) (x5 : Int32) (x6 : Int32) (S : MS) (H : Heap) (locs : List Loc) (ls : Array Slot), wp_X7_next_69 K25 post x1 x2 x3 x4 x5 x6 S → Wd (WM ad cI cJ cZ) D A s.heap H locs S → lv_has ls 7 [(0, .ref (ad 0)), (1, .int x1), (2, .int x2), (3, .int x3), (4, .int x4), (5, .int x5), (6, .int x6)] → W p l e rm_X7_next s m args below meth c H locs 0 0 (QI (WM ad cI cJ cZ) D A s args below post) (F0 m 69 ls []) := by
  have hx := C0.1
  have hb := C0.2.1
  intro x1 x2 x3 x4 x5 x6 S H locs ls h hw hl
  unfold wp_X7_next_69 at h
  obtain ⟨x6_1, ex6_1⟩ : ∃ y : Int32, y = x6 + (1 : Int32) := ⟨_, rfl⟩
  refine lv_iinc (v := x6_1) (lv' := [(6, .int x6_1), (0, .ref (ad 0)), (1, .int x1), (2, .int x2), (3, .int x3), (4, .int x4), (5, .int x5)]) hx hb dX7_next_69 hl (k := 6) rfl (by rw [ex6_1]; rfl) (by decide) rfl (fun ls hl => ?_)
  have h := h x6_1 ex6_1
  refine lv_goto (tgt := 25) hx hb dX7_next_72 (by decide) ?_
  replace hl := lv_sub hl [1, 2, 3, 4, 5, 6, 0] rfl
  exact hK25 x1 x2 x3 x4 x5 x6_1 S _ _ _ h hw hl
set_option maxHeartbeats 4000000 in
set_option maxRecDepth 100000 in
theorem mb_X7_next_50 {p : Program} {l : Launch} {e : Env} {s : State} {m : MethodId} {args : Array Value} {below : List Frame} {meth : Method} {c : Code} {D : va_G} {ad : Nat → Nat} {cI cJ cZ : ClassId} {A : Nat → Prop} {post : Int32 → MS → Prop} (C0 : Cx p s m args meth c cX7_next 7 RX7 (some .int) D cI cJ cZ A) (K25 : Int32 → Int32 → Int32 → Int32 → Int32 → Int32 → MS → Prop) (hK25 : ∀ (x1 : Int32) (x2 : Int32) (x3 : Int32) (x4 : Int32) (x5 : Int32) (x6 : Int32) (S : MS) (H : Heap) (locs : List Loc) (ls : Array Slot), K25 x1 x2 x3 x4 x5 x6 S → Wd (WM ad cI cJ cZ) D A s.heap H locs S → lv_has ls 7 [(0, .ref (ad 0)), (1, .int x1), (2, .int x2), (3, .int x3), (4, .int x4), (5, .int x5), (6, .int x6)] → W p l e rm_X7_next s m args below meth c H locs 0 0 (QI (WM ad cI cJ cZ) D A s args below post) (F0 m 25 ls [])) :
 ∀ (x1 : Int32) (x2 : Int32) (x3 : Int32) (x4 : Int32) (x5 : Int32) (x6 : Int32) (S : MS) (H : Heap) (locs : List Loc) (ls : Array Slot), wp_X7_next_50 K25 post x1 x2 x3 x4 x5 x6 S → Wd (WM ad cI cJ cZ) D A s.heap H locs S → lv_has ls 7 [(0, .ref (ad 0)), (1, .int x1), (2, .int x2), (3, .int x3), (4, .int x4), (5, .int x5), (6, .int x6)] → W p l e rm_X7_next s m args below meth c H locs 0 0 (QI (WM ad cI cJ cZ) D A s args below post) (F0 m 50 ls []) := by
  have hx := C0.1
  have hb := C0.2.1
  intro x1 x2 x3 x4 x5 x6 S H locs ls h hw hl
  unfold wp_X7_next_50 at h
  refine lv_aload_n hx hb dX7_next_50 rfl (lv_at hl 0 rfl) ?_
  refine gf_X7_nexts C0 hw dX7_next_51 ?_
  refine lv_iconst (v := 4) hx hb dX7_next_54 (by decide) ?_
  refine lv_iload_n hx hb dX7_next_55 rfl (lv_at hl 1 rfl) ?_
  refine lv_imul hx hb dX7_next_56 ?_
  refine lv_iload hx hb dX7_next_57 (lv_at hl 6 rfl) ?_
  refine lv_iadd hx hb dX7_next_59 ?_
  refine ld_M_nexts C0 hw h.1 dX7_next_60 ?_
  have h := h.2
  refine lv_iconst (v := -1) hx hb dX7_next_61 (by decide) ?_
  refine lv_icmp_ne (tgt := 69) hx hb dX7_next_62 (by decide) (fun c62 => ?_) (fun c62 => ?_)
  · have h := h.1 c62
    replace hl := lv_sub hl [0, 1, 2, 3, 4, 5, 6] rfl
    exact mb_X7_next_69 C0 _ hK25 x1 x2 x3 x4 x5 x6 S _ _ ls h hw hl
  · have h := h.2 c62
    refine lv_iload hx hb dX7_next_65 (lv_at hl 6 rfl) ?_
    refine lv_istore (lv' := [(5, .int x6), (0, .ref (ad 0)), (1, .int x1), (2, .int x2), (3, .int x3), (4, .int x4), (6, .int x6)]) hx hb dX7_next_67 hl (by decide) rfl (fun ls hl => ?_)
    replace hl := lv_sub hl [1, 2, 3, 4, 5, 0, 6] rfl
    exact mb_X7_next_69 C0 _ hK25 x1 x2 x3 x4 x6 x6 S _ _ ls h hw hl
set_option maxHeartbeats 4000000 in
set_option maxRecDepth 100000 in
theorem mb_X7_next_137 {p : Program} {l : Launch} {e : Env} {s : State} {m : MethodId} {args : Array Value} {below : List Frame} {meth : Method} {c : Code} {D : va_G} {ad : Nat → Nat} {cI cJ cZ : ClassId} {A : Nat → Prop} {post : Int32 → MS → Prop} (C0 : Cx p s m args meth c cX7_next 7 RX7 (some .int) D cI cJ cZ A) :
 ∀ (S : MS) (H : Heap) (locs : List Loc) (ls : Array Slot), wp_X7_next_137 post S → Wd (WM ad cI cJ cZ) D A s.heap H locs S → lv_has ls 7 [(0, .ref (ad 0))] → W p l e rm_X7_next s m args below meth c H locs 0 0 (QI (WM ad cI cJ cZ) D A s args below post) (F0 m 137 ls []) := by
  have hx := C0.1
  have hb := C0.2.1
  intro  S H locs ls h hw hl
  unfold wp_X7_next_137 at h
  refine lv_aload_n hx hb dX7_next_137 rfl (lv_at hl 0 rfl) ?_
  refine lv_iconst (v := 1) hx hb dX7_next_138 (by decide) ?_
  refine pf_X7_isOld C0 hw (Or.inr rfl) dX7_next_139 (fun H locs hw => ?_)
  obtain ⟨S_1, eS_1⟩ : ∃ z, z = sM_isOld S (1 : Int32) := ⟨_, rfl⟩
  rw [← eS_1] at hw
  have h := h S_1 eS_1
  refine lv_iconst (v := 1) hx hb dX7_next_142 (by decide) ?_
  exact rtI C0 hw h dX7_next_143
set_option maxHeartbeats 4000000 in
set_option maxRecDepth 100000 in
theorem mb_X7_next_115 {p : Program} {l : Launch} {e : Env} {s : State} {m : MethodId} {args : Array Value} {below : List Frame} {meth : Method} {c : Code} {D : va_G} {ad : Nat → Nat} {cI cJ cZ : ClassId} {A : Nat → Prop} {post : Int32 → MS → Prop} (C0 : Cx p s m args meth c cX7_next 7 RX7 (some .int) D cI cJ cZ A) :
 ∀ (x1 : Int32) (x3 : Int32) (x4 : Int32) (S : MS) (H : Heap) (locs : List Loc) (ls : Array Slot), wp_X7_next_115 post x1 x3 x4 S → Wd (WM ad cI cJ cZ) D A s.heap H locs S → lv_has ls 7 [(0, .ref (ad 0)), (1, .int x1), (3, .int x3), (4, .int x4)] → W p l e rm_X7_next s m args below meth c H locs 0 0 (QI (WM ad cI cJ cZ) D A s args below post) (F0 m 115 ls []) := by
  have hx := C0.1
  have hb := C0.2.1
  intro x1 x3 x4 S H locs ls h hw hl
  unfold wp_X7_next_115 at h
  refine lv_iload_n hx hb dX7_next_115 rfl (lv_at hl 2 rfl) ?_
  refine lv_if_ne (tgt := 137) hx hb dX7_next_116 (by decide) (fun c116 => ?_) (fun c116 => ?_)
  · have h := h.1 c116
    replace hl := lv_sub hl [0] rfl
    exact mb_X7_next_137 C0 S _ _ ls h hw hl
  · have h := h.2 c116
    refine lv_iload hx hb dX7_next_119 (lv_at hl 3 rfl) ?_
    refine lv_iconst (v := -1) hx hb dX7_next_121 (by decide) ?_
    refine lv_icmp_eq (tgt := 137) hx hb dX7_next_122 (by decide) (fun c122 => ?_) (fun c122 => ?_)
    · have h := h.1 c122
      replace hl := lv_sub hl [0] rfl
      exact mb_X7_next_137 C0 S _ _ ls h hw hl
    · have h := h.2 c122
      refine lv_aload_n hx hb dX7_next_125 rfl (lv_at hl 0 rfl) ?_
      refine gf_X7_nexts C0 hw dX7_next_126 ?_
      refine lv_iconst (v := 4) hx hb dX7_next_129 (by decide) ?_
      refine lv_iload_n hx hb dX7_next_130 rfl (lv_at hl 1 rfl) ?_
      refine lv_imul hx hb dX7_next_131 ?_
      refine lv_iload hx hb dX7_next_132 (lv_at hl 3 rfl) ?_
      refine lv_iadd hx hb dX7_next_134 ?_
      refine lv_iconst (v := -1) hx hb dX7_next_135 (by decide) ?_
      refine st_M_nexts C0 hw h.1 dX7_next_136 (fun H locs hw => ?_)
      have h := h.2
      obtain ⟨S_1, eS_1⟩ : ∃ z, z = sM_nexts S (upd (gM_nexts S) (((4 : Int32) * x1) + x4).toNatClampNeg (-1 : Int32)) := ⟨_, rfl⟩
      rw [← eS_1] at hw
      have h := h S_1 eS_1
      replace hl := lv_sub hl [0] rfl
      exact mb_X7_next_137 C0 S_1 _ _ ls h hw hl
set_option maxHeartbeats 4000000 in
set_option maxRecDepth 100000 in
theorem mb_X7_next_93 {p : Program} {l : Launch} {e : Env} {s : State} {m : MethodId} {args : Array Value} {below : List Frame} {meth : Method} {c : Code} {D : va_G} {ad : Nat → Nat} {cI cJ cZ : ClassId} {A : Nat → Prop} {post : Int32 → MS → Prop} (C0 : Cx p s m args meth c cX7_next 7 RX7 (some .int) D cI cJ cZ A) :
 ∀ (x1 : Int32) (x2 : Int32) (x3 : Int32) (x4 : Int32) (x5 : Int32) (S : MS) (H : Heap) (locs : List Loc) (ls : Array Slot), wp_X7_next_93 post x1 x2 x3 x4 x5 S → Wd (WM ad cI cJ cZ) D A s.heap H locs S → lv_has ls 7 [(0, .ref (ad 0)), (1, .int x1), (2, .int x2), (3, .int x3), (4, .int x4), (5, .int x5)] → W p l e rm_X7_next s m args below meth c H locs 0 0 (QI (WM ad cI cJ cZ) D A s args below post) (F0 m 93 ls []) := by
  have hx := C0.1
  have hb := C0.2.1
  intro x1 x2 x3 x4 x5 S H locs ls h hw hl
  unfold wp_X7_next_93 at h
  refine lv_iload_n hx hb dX7_next_93 rfl (lv_at hl 3 rfl) ?_
  refine lv_if_eq (tgt := 115) hx hb dX7_next_94 (by decide) (fun c94 => ?_) (fun c94 => ?_)
  · have h := h.1 c94
    replace hl := lv_sub hl [0, 1, 3, 4] rfl
    exact mb_X7_next_115 C0 x1 x3 x4 S _ _ ls h hw hl
  · have h := h.2 c94
    refine lv_iload hx hb dX7_next_97 (lv_at hl 4 rfl) ?_
    refine lv_iconst (v := -1) hx hb dX7_next_99 (by decide) ?_
    refine lv_icmp_ne (tgt := 115) hx hb dX7_next_100 (by decide) (fun c100 => ?_) (fun c100 => ?_)
    · have h := h.1 c100
      replace hl := lv_sub hl [0, 1, 3, 4] rfl
      exact mb_X7_next_115 C0 x1 x3 x4 S _ _ ls h hw hl
    · have h := h.2 c100
      refine lv_aload_n hx hb dX7_next_103 rfl (lv_at hl 0 rfl) ?_
      refine gf_X7_nexts C0 hw dX7_next_104 ?_
      refine lv_iconst (v := 4) hx hb dX7_next_107 (by decide) ?_
      refine lv_iload_n hx hb dX7_next_108 rfl (lv_at hl 1 rfl) ?_
      refine lv_imul hx hb dX7_next_109 ?_
      refine lv_iload hx hb dX7_next_110 (lv_at hl 5 rfl) ?_
      refine lv_iadd hx hb dX7_next_112 ?_
      refine lv_iload_n hx hb dX7_next_113 rfl (lv_at hl 2 rfl) ?_
      refine st_M_nexts C0 hw h.1 dX7_next_114 (fun H locs hw => ?_)
      have h := h.2
      obtain ⟨S_1, eS_1⟩ : ∃ z, z = sM_nexts S (upd (gM_nexts S) (((4 : Int32) * x1) + x5).toNatClampNeg x2) := ⟨_, rfl⟩
      rw [← eS_1] at hw
      have h := h S_1 eS_1
      replace hl := lv_sub hl [0, 1, 3, 4] rfl
      exact mb_X7_next_115 C0 x1 x3 x4 S_1 _ _ ls h hw hl
set_option maxHeartbeats 4000000 in
set_option maxRecDepth 100000 in
theorem mb_X7_next_25 {p : Program} {l : Launch} {e : Env} {s : State} {m : MethodId} {args : Array Value} {below : List Frame} {meth : Method} {c : Code} {D : va_G} {ad : Nat → Nat} {cI cJ cZ : ClassId} {A : Nat → Prop} {post : Int32 → MS → Prop} (C0 : Cx p s m args meth c cX7_next 7 RX7 (some .int) D cI cJ cZ A) :
 ∀ (n : Nat) (x1 : Int32) (x2 : Int32) (x3 : Int32) (x4 : Int32) (x5 : Int32) (x6 : Int32) (S : MS) (H : Heap) (locs : List Loc) (ls : Array Slot), wp_X7_next_25 post n x1 x2 x3 x4 x5 x6 S → Wd (WM ad cI cJ cZ) D A s.heap H locs S → lv_has ls 7 [(0, .ref (ad 0)), (1, .int x1), (2, .int x2), (3, .int x3), (4, .int x4), (5, .int x5), (6, .int x6)] → W p l e rm_X7_next s m args below meth c H locs 0 0 (QI (WM ad cI cJ cZ) D A s args below post) (F0 m 25 ls []) := by
  have hx := C0.1
  have hb := C0.2.1
  intro n
  induction n with
  | zero => intro x1 x2 x3 x4 x5 x6 S H locs ls h; exact h.elim
  | succ n ih =>
    intro x1 x2 x3 x4 x5 x6 S H locs ls h hw hl
    replace h : ws_X7_next_25 (wp_X7_next_25  post n)  post x1 x2 x3 x4 x5 x6 S := h
    unfold ws_X7_next_25 at h
    refine lv_iload hx hb dX7_next_25 (lv_at hl 6 rfl) ?_
    refine lv_iconst (v := 4) hx hb dX7_next_27 (by decide) ?_
    refine lv_icmp_ge (tgt := 75) hx hb dX7_next_28 (by decide) (fun c28 => ?_) (fun c28 => ?_)
    · have h := h.1 c28
      refine lv_iload_n hx hb dX7_next_75 rfl (lv_at hl 3 rfl) ?_
      refine lv_if_eq (tgt := 93) hx hb dX7_next_76 (by decide) (fun c76 => ?_) (fun c76 => ?_)
      · have h := h.1 c76
        replace hl := lv_sub hl [0, 1, 2, 3, 4, 5] rfl
        exact mb_X7_next_93 C0 x1 x2 x3 x4 x5 S _ _ ls h hw hl
      · have h := h.2 c76
        refine lv_iload hx hb dX7_next_79 (lv_at hl 4 rfl) ?_
        refine lv_iconst (v := -1) hx hb dX7_next_81 (by decide) ?_
        refine lv_icmp_ne (tgt := 93) hx hb dX7_next_82 (by decide) (fun c82 => ?_) (fun c82 => ?_)
        · have h := h.1 c82
          replace hl := lv_sub hl [0, 1, 2, 3, 4, 5] rfl
          exact mb_X7_next_93 C0 x1 x2 x3 x4 x5 S _ _ ls h hw hl
        · have h := h.2 c82
          refine lv_iload hx hb dX7_next_85 (lv_at hl 5 rfl) ?_
          refine lv_iconst (v := -1) hx hb dX7_next_87 (by decide) ?_
          refine lv_icmp_ne (tgt := 93) hx hb dX7_next_88 (by decide) (fun c88 => ?_) (fun c88 => ?_)
          · have h := h.1 c88
            replace hl := lv_sub hl [0, 1, 2, 3, 4, 5] rfl
            exact mb_X7_next_93 C0 x1 x2 x3 x4 x5 S _ _ ls h hw hl
          · have h := h.2 c88
            refine lv_iconst (v := -1) hx hb dX7_next_91 (by decide) ?_
            exact rtI C0 hw h dX7_next_92
    · have h := h.2 c28
      refine lv_aload_n hx hb dX7_next_31 rfl (lv_at hl 0 rfl) ?_
      refine gf_X7_nexts C0 hw dX7_next_32 ?_
      refine lv_iconst (v := 4) hx hb dX7_next_35 (by decide) ?_
      refine lv_iload_n hx hb dX7_next_36 rfl (lv_at hl 1 rfl) ?_
      refine lv_imul hx hb dX7_next_37 ?_
      refine lv_iload hx hb dX7_next_38 (lv_at hl 6 rfl) ?_
      refine lv_iadd hx hb dX7_next_40 ?_
      refine ld_M_nexts C0 hw h.1 dX7_next_41 ?_
      have h := h.2
      refine lv_iload_n hx hb dX7_next_42 rfl (lv_at hl 2 rfl) ?_
      refine lv_icmp_ne (tgt := 50) hx hb dX7_next_43 (by decide) (fun c43 => ?_) (fun c43 => ?_)
      · have h := h.1 c43
        replace hl := lv_sub hl [0, 1, 2, 3, 4, 5, 6] rfl
        exact mb_X7_next_50 C0 _ ih x1 x2 x3 x4 x5 x6 S _ _ ls h hw hl
      · have h := h.2 c43
        refine lv_iload hx hb dX7_next_46 (lv_at hl 6 rfl) ?_
        refine lv_istore (lv' := [(4, .int x6), (0, .ref (ad 0)), (1, .int x1), (2, .int x2), (3, .int x3), (5, .int x5), (6, .int x6)]) hx hb dX7_next_48 hl (by decide) rfl (fun ls hl => ?_)
        replace hl := lv_sub hl [1, 2, 3, 4, 0, 5, 6] rfl
        exact mb_X7_next_50 C0 _ ih x1 x2 x3 x6 x5 x6 S _ _ ls h hw hl
set_option maxHeartbeats 4000000 in
set_option maxRecDepth 100000 in
theorem m_X7_next (l : Launch) (D : va_G) (ad : Nat → Nat) (cI cJ cZ : ClassId) (S : MS) (x1 : Int32) (x2 : Int32) (x3 : Int32) (post : Int32 → MS → Prop) (h : wp_X7_next S x1 x2 x3 post) : CI (WM ad cI cJ cZ) D cI cJ cZ l yX7_next (.code yX7_next cX7_next 7 (some .int) :: gt) rm_X7_next S [.ref (ad 0), .int x1, .int x2, .int x3] post := by
  refine enI (by decide) (Nat.le_of_ble_eq_true rfl) ?_
  intro p e s m below meth c A ls C0 hw hl
  have C0 : Cx p s m _ meth c cX7_next 7 RX7 (some .int) D cI cJ cZ A := C0
  have hl : lv_has ls 7 [(0, .ref (ad 0)), (1, .int x1), (2, .int x2), (3, .int x3)] := hl
  have hx := C0.1
  have hb := C0.2.1
  unfold wp_X7_next at h
  refine lv_iload_n hx hb dX7_next_0 rfl (lv_at hl 1 rfl) ?_
  refine clSI (As := [.int x1]) (rest := []) C0 (m_X7_isPoint l D ad cI cJ cZ S x1 _ h) cal_X7_isPoint kw_302 kw_301 rfl hl.1 rfl (Nat.le_of_ble_eq_true rfl) ⟨Nat.le_of_ble_eq_true rfl, Nat.le_of_ble_eq_true rfl⟩ rfl rfl dX7_next_1 hw (fun r1 S1 H locs h hw => ?_)
  replace h := h
  refine lv_if_eq (tgt := 14) hx hb dX7_next_4 (by decide) (fun c4 => ?_) (fun c4 => ?_)
  · have h := h.1 c4
    refine lv_iconst (v := -1) hx hb dX7_next_14 (by decide) ?_
    exact rtI C0 hw h dX7_next_15
  · have h := h.2 c4
    refine lv_iload_n hx hb dX7_next_7 rfl (lv_at hl 2 rfl) ?_
    refine clSI (As := [.int x2]) (rest := []) C0 (m_X7_isPoint l D ad cI cJ cZ S1 x2 _ h) cal_X7_isPoint kw_302 kw_301 rfl hl.1 rfl (Nat.le_of_ble_eq_true rfl) ⟨Nat.le_of_ble_eq_true rfl, Nat.le_of_ble_eq_true rfl⟩ rfl rfl dX7_next_8 hw (fun r8 S8 H locs h hw => ?_)
    replace h := h
    refine lv_if_ne (tgt := 16) hx hb dX7_next_11 (by decide) (fun c11 => ?_) (fun c11 => ?_)
    · have h := h.1 c11
      refine lv_iconst (v := -1) hx hb dX7_next_16 (by decide) ?_
      refine lv_istore (lv' := [(4, .int (-1 : Int32)), (0, .ref (ad 0)), (1, .int x1), (2, .int x2), (3, .int x3)]) hx hb dX7_next_17 hl (by decide) rfl (fun ls hl => ?_)
      refine lv_iconst (v := -1) hx hb dX7_next_19 (by decide) ?_
      refine lv_istore (lv' := [(5, .int (-1 : Int32)), (4, .int (-1 : Int32)), (0, .ref (ad 0)), (1, .int x1), (2, .int x2), (3, .int x3)]) hx hb dX7_next_20 hl (by decide) rfl (fun ls hl => ?_)
      refine lv_iconst (v := 0) hx hb dX7_next_22 (by decide) ?_
      refine lv_istore (lv' := [(6, .int (0 : Int32)), (5, .int (-1 : Int32)), (4, .int (-1 : Int32)), (0, .ref (ad 0)), (1, .int x1), (2, .int x2), (3, .int x3)]) hx hb dX7_next_23 hl (by decide) rfl (fun ls hl => ?_)
      replace hl := lv_sub hl [3, 4, 5, 6, 2, 1, 0] rfl
      obtain ⟨n, h⟩ := h
      exact mb_X7_next_25 C0 n x1 x2 x3 (-1 : Int32) (-1 : Int32) (0 : Int32) S8 _ _ ls h hw hl
    · have h := h.2 c11
      refine lv_iconst (v := -1) hx hb dX7_next_14 (by decide) ?_
      exact rtI C0 hw h dX7_next_15
abbrev rm_X7_isThrough : Room := { frames := 0, cells := 0, slots := 0, locals := 0 }
set_option maxHeartbeats 4000000 in
set_option maxRecDepth 100000 in
theorem m_X7_isThrough (l : Launch) (D : va_G) (ad : Nat → Nat) (cI cJ cZ : ClassId) (S : MS) (x1 : Int32) (x2 : Int32) (post : Int32 → MS → Prop) (h : wp_X7_isThrough S x1 x2 post) : CI (WM ad cI cJ cZ) D cI cJ cZ l yX7_isThrough (.code yX7_isThrough cX7_isThrough 3 (some .boolean) :: gt) rm_X7_isThrough S [.ref (ad 0), .int x1, .int x2] post := by
  refine enI (by decide) (Nat.le_of_ble_eq_true rfl) ?_
  intro p e s m below meth c A ls C0 hw hl
  have C0 : Cx p s m _ meth c cX7_isThrough 3 RX7 (some .boolean) D cI cJ cZ A := C0
  have hl : lv_has ls 3 [(0, .ref (ad 0)), (1, .int x1), (2, .int x2)] := hl
  have hx := C0.1
  have hb := C0.2.1
  unfold wp_X7_isThrough at h
  refine lv_aload_n hx hb dX7_isThrough_0 rfl (lv_at hl 0 rfl) ?_
  refine gf_X7_sort C0 hw dX7_isThrough_1 ?_
  refine lv_iload_n hx hb dX7_isThrough_4 rfl (lv_at hl 1 rfl) ?_
  refine ld_M_sort C0 hw h.1 dX7_isThrough_5 ?_
  have h := h.2
  refine lv_if_eq (tgt := 17) hx hb dX7_isThrough_6 (by decide) (fun c6 => ?_) (fun c6 => ?_)
  · have h := h.1 c6
    refine lv_iconst (v := 0) hx hb dX7_isThrough_17 (by decide) ?_
    exact rtZ C0 hw rfl h dX7_isThrough_18
  · have h := h.2 c6
    refine lv_iload_n hx hb dX7_isThrough_9 rfl (lv_at hl 2 rfl) ?_
    refine lv_if_le (tgt := 17) hx hb dX7_isThrough_10 (by decide) (fun c10 => ?_) (fun c10 => ?_)
    · have h := h.1 c10
      refine lv_iconst (v := 0) hx hb dX7_isThrough_17 (by decide) ?_
      exact rtZ C0 hw rfl h dX7_isThrough_18
    · have h := h.2 c10
      refine lv_iconst (v := 1) hx hb dX7_isThrough_13 (by decide) ?_
      refine lv_goto (tgt := 18) hx hb dX7_isThrough_14 (by decide) ?_
      exact rtZ C0 hw rfl h dX7_isThrough_18
abbrev rm_X7_uses : Room := { frames := 1, cells := 0, slots := 0, locals := 22 }
set_option maxHeartbeats 4000000 in
set_option maxRecDepth 100000 in
theorem m_X7_uses (l : Launch) (D : va_G) (ad : Nat → Nat) (cI cJ cZ : ClassId) (S : MS) (x1 : Int32) (x2 : Int32) (post : Int32 → MS → Prop) (h : wp_X7_uses S x1 x2 post) : CI (WM ad cI cJ cZ) D cI cJ cZ l yX7_uses (.code yX7_uses cX7_uses 3 (some .boolean) :: gt) rm_X7_uses S [.ref (ad 0), .int x1, .int x2] post := by
  refine enI (by decide) (Nat.le_of_ble_eq_true rfl) ?_
  intro p e s m below meth c A ls C0 hw hl
  have C0 : Cx p s m _ meth c cX7_uses 3 RX7 (some .boolean) D cI cJ cZ A := C0
  have hl : lv_has ls 3 [(0, .ref (ad 0)), (1, .int x1), (2, .int x2)] := hl
  have hx := C0.1
  have hb := C0.2.1
  unfold wp_X7_uses at h
  refine lv_aload_n hx hb dX7_uses_0 rfl (lv_at hl 0 rfl) ?_
  refine gf_X7_acts C0 hw dX7_uses_1 ?_
  refine lv_iload_n hx hb dX7_uses_4 rfl (lv_at hl 1 rfl) ?_
  refine ld_M_acts C0 hw h.1 dX7_uses_5 ?_
  have h := h.2
  refine lv_bipush (v := 8) hx hb dX7_uses_6 (by decide) ?_
  refine lv_icmp_ne (tgt := 29) hx hb dX7_uses_8 (by decide) (fun c8 => ?_) (fun c8 => ?_)
  · have h := h.1 c8
    refine lv_aload_n hx hb dX7_uses_29 rfl (lv_at hl 0 rfl) ?_
    refine gf_X7_acts C0 hw dX7_uses_30 ?_
    refine lv_iload_n hx hb dX7_uses_33 rfl (lv_at hl 1 rfl) ?_
    refine ld_M_acts C0 hw h.1 dX7_uses_34 ?_
    have h := h.2
    refine lv_if_eq (tgt := 87) hx hb dX7_uses_35 (by decide) (fun c35 => ?_) (fun c35 => ?_)
    · have h := h.1 c35
      refine lv_iconst (v := 0) hx hb dX7_uses_87 (by decide) ?_
      exact rtZ C0 hw rfl h dX7_uses_88
    · have h := h.2 c35
      refine lv_aload_n hx hb dX7_uses_38 rfl (lv_at hl 0 rfl) ?_
      refine gf_X7_acts C0 hw dX7_uses_39 ?_
      refine lv_iload_n hx hb dX7_uses_42 rfl (lv_at hl 1 rfl) ?_
      refine ld_M_acts C0 hw h.1 dX7_uses_43 ?_
      have h := h.2
      refine lv_iconst (v := 5) hx hb dX7_uses_44 (by decide) ?_
      refine lv_icmp_eq (tgt := 87) hx hb dX7_uses_45 (by decide) (fun c45 => ?_) (fun c45 => ?_)
      · have h := h.1 c45
        refine lv_iconst (v := 0) hx hb dX7_uses_87 (by decide) ?_
        exact rtZ C0 hw rfl h dX7_uses_88
      · have h := h.2 c45
        refine lv_aload_n hx hb dX7_uses_48 rfl (lv_at hl 0 rfl) ?_
        refine gf_X7_acts C0 hw dX7_uses_49 ?_
        refine lv_iload_n hx hb dX7_uses_52 rfl (lv_at hl 1 rfl) ?_
        refine ld_M_acts C0 hw h.1 dX7_uses_53 ?_
        have h := h.2
        refine lv_bipush (v := 6) hx hb dX7_uses_54 (by decide) ?_
        refine lv_icmp_eq (tgt := 87) hx hb dX7_uses_56 (by decide) (fun c56 => ?_) (fun c56 => ?_)
        · have h := h.1 c56
          refine lv_iconst (v := 0) hx hb dX7_uses_87 (by decide) ?_
          exact rtZ C0 hw rfl h dX7_uses_88
        · have h := h.2 c56
          refine lv_aload_n hx hb dX7_uses_59 rfl (lv_at hl 0 rfl) ?_
          refine gf_X7_of C0 hw dX7_uses_60 ?_
          refine lv_iload_n hx hb dX7_uses_63 rfl (lv_at hl 1 rfl) ?_
          refine ld_M_of C0 hw h.1 dX7_uses_64 ?_
          have h := h.2
          refine lv_iload_n hx hb dX7_uses_65 rfl (lv_at hl 2 rfl) ?_
          refine lv_icmp_ne (tgt := 87) hx hb dX7_uses_66 (by decide) (fun c66 => ?_) (fun c66 => ?_)
          · have h := h.1 c66
            refine lv_iconst (v := 0) hx hb dX7_uses_87 (by decide) ?_
            exact rtZ C0 hw rfl h dX7_uses_88
          · have h := h.2 c66
            refine lv_aload_n hx hb dX7_uses_69 rfl (lv_at hl 0 rfl) ?_
            refine lv_iload_n hx hb dX7_uses_70 rfl (lv_at hl 2 rfl) ?_
            refine lv_aload_n hx hb dX7_uses_71 rfl (lv_at hl 0 rfl) ?_
            refine gf_X7_path C0 hw dX7_uses_72 ?_
            refine lv_iload_n hx hb dX7_uses_75 rfl (lv_at hl 1 rfl) ?_
            refine ld_M_path C0 hw h.1 dX7_uses_76 ?_
            have h := h.2
            refine clVI (As := [.int x2, .int (gM_path S (x1).toNatClampNeg)]) (rest := []) (ci := 6) (k := 0) C0 (m_X7_isThrough l D ad cI cJ cZ S x2 (gM_path S (x1).toNatClampNeg) _ h) cal_X7_isThrough kw_316 kw_315 kw_314 rfl rfl rfl rfl hl.1 rfl (Nat.le_of_ble_eq_true rfl) ⟨Nat.le_of_ble_eq_true rfl, Nat.le_of_ble_eq_true rfl⟩ rfl rfl dX7_uses_77 hw (fun r77 S77 H locs h hw => ?_)
            replace h := h
            refine lv_if_eq (tgt := 87) hx hb dX7_uses_80 (by decide) (fun c80 => ?_) (fun c80 => ?_)
            · have h := h.1 c80
              refine lv_iconst (v := 0) hx hb dX7_uses_87 (by decide) ?_
              exact rtZ C0 hw rfl h dX7_uses_88
            · have h := h.2 c80
              refine lv_iconst (v := 1) hx hb dX7_uses_83 (by decide) ?_
              refine lv_goto (tgt := 88) hx hb dX7_uses_84 (by decide) ?_
              exact rtZ C0 hw rfl h dX7_uses_88
  · have h := h.2 c8
    refine lv_aload_n hx hb dX7_uses_11 rfl (lv_at hl 0 rfl) ?_
    refine gf_X7_of C0 hw dX7_uses_12 ?_
    refine lv_iload_n hx hb dX7_uses_15 rfl (lv_at hl 1 rfl) ?_
    refine ld_M_of C0 hw h.1 dX7_uses_16 ?_
    have h := h.2
    refine lv_iload_n hx hb dX7_uses_17 rfl (lv_at hl 2 rfl) ?_
    refine lv_icmp_ne (tgt := 25) hx hb dX7_uses_18 (by decide) (fun c18 => ?_) (fun c18 => ?_)
    · have h := h.1 c18
      refine lv_iconst (v := 0) hx hb dX7_uses_25 (by decide) ?_
      refine lv_goto (tgt := 88) hx hb dX7_uses_26 (by decide) ?_
      exact rtZ C0 hw rfl h dX7_uses_88
    · have h := h.2 c18
      refine lv_iconst (v := 1) hx hb dX7_uses_21 (by decide) ?_
      refine lv_goto (tgt := 88) hx hb dX7_uses_22 (by decide) ?_
      exact rtZ C0 hw rfl h dX7_uses_88
abbrev rm_X7_renews : Room := { frames := 0, cells := 0, slots := 0, locals := 0 }
set_option maxHeartbeats 4000000 in
set_option maxRecDepth 100000 in
theorem mb_X7_renews_32 {p : Program} {l : Launch} {e : Env} {s : State} {m : MethodId} {args : Array Value} {below : List Frame} {meth : Method} {c : Code} {D : va_G} {ad : Nat → Nat} {cI cJ cZ : ClassId} {A : Nat → Prop} {post : Int32 → MS → Prop} (C0 : Cx p s m args meth c cX7_renews 3 RX7 (some .boolean) D cI cJ cZ A) :
 ∀ (x1 : Int32) (x2 : Int32) (S : MS) (H : Heap) (locs : List Loc) (ls : Array Slot), wp_X7_renews_32 post x1 x2 S → Wd (WM ad cI cJ cZ) D A s.heap H locs S → lv_has ls 3 [(0, .ref (ad 0)), (1, .int x1), (2, .int x2)] → W p l e rm_X7_renews s m args below meth c H locs 0 0 (QI (WM ad cI cJ cZ) D A s args below post) (F0 m 32 ls []) := by
  have hx := C0.1
  have hb := C0.2.1
  intro x1 x2 S H locs ls h hw hl
  unfold wp_X7_renews_32 at h
  refine lv_aload_n hx hb dX7_renews_32 rfl (lv_at hl 0 rfl) ?_
  refine gf_X7_acts C0 hw dX7_renews_33 ?_
  refine lv_iload_n hx hb dX7_renews_36 rfl (lv_at hl 1 rfl) ?_
  refine ld_M_acts C0 hw h.1 dX7_renews_37 ?_
  have h := h.2
  refine lv_iconst (v := 5) hx hb dX7_renews_38 (by decide) ?_
  refine lv_icmp_ne (tgt := 56) hx hb dX7_renews_39 (by decide) (fun c39 => ?_) (fun c39 => ?_)
  · have h := h.1 c39
    refine lv_iconst (v := 0) hx hb dX7_renews_56 (by decide) ?_
    exact rtZ C0 hw rfl h dX7_renews_57
  · have h := h.2 c39
    refine lv_aload_n hx hb dX7_renews_42 rfl (lv_at hl 0 rfl) ?_
    refine gf_X7_of C0 hw dX7_renews_43 ?_
    refine lv_iload_n hx hb dX7_renews_46 rfl (lv_at hl 1 rfl) ?_
    refine ld_M_of C0 hw h.1 dX7_renews_47 ?_
    have h := h.2
    refine lv_iload_n hx hb dX7_renews_48 rfl (lv_at hl 2 rfl) ?_
    refine lv_icmp_ne (tgt := 56) hx hb dX7_renews_49 (by decide) (fun c49 => ?_) (fun c49 => ?_)
    · have h := h.1 c49
      refine lv_iconst (v := 0) hx hb dX7_renews_56 (by decide) ?_
      exact rtZ C0 hw rfl h dX7_renews_57
    · have h := h.2 c49
      refine lv_iconst (v := 1) hx hb dX7_renews_52 (by decide) ?_
      refine lv_goto (tgt := 57) hx hb dX7_renews_53 (by decide) ?_
      exact rtZ C0 hw rfl h dX7_renews_57
set_option maxHeartbeats 4000000 in
set_option maxRecDepth 100000 in
theorem mb_X7_renews_22 {p : Program} {l : Launch} {e : Env} {s : State} {m : MethodId} {args : Array Value} {below : List Frame} {meth : Method} {c : Code} {D : va_G} {ad : Nat → Nat} {cI cJ cZ : ClassId} {A : Nat → Prop} {post : Int32 → MS → Prop} (C0 : Cx p s m args meth c cX7_renews 3 RX7 (some .boolean) D cI cJ cZ A) (K32 : Int32 → Int32 → MS → Prop) (hK32 : ∀ (x1 : Int32) (x2 : Int32) (S : MS) (H : Heap) (locs : List Loc) (ls : Array Slot), K32 x1 x2 S → Wd (WM ad cI cJ cZ) D A s.heap H locs S → lv_has ls 3 [(0, .ref (ad 0)), (1, .int x1), (2, .int x2)] → W p l e rm_X7_renews s m args below meth c H locs 0 0 (QI (WM ad cI cJ cZ) D A s args below post) (F0 m 32 ls [])) :
 ∀ (x1 : Int32) (x2 : Int32) (S : MS) (H : Heap) (locs : List Loc) (ls : Array Slot), wp_X7_renews_22 K32 post x1 x2 S → Wd (WM ad cI cJ cZ) D A s.heap H locs S → lv_has ls 3 [(0, .ref (ad 0)), (1, .int x1), (2, .int x2)] → W p l e rm_X7_renews s m args below meth c H locs 0 0 (QI (WM ad cI cJ cZ) D A s args below post) (F0 m 22 ls []) := by
  have hx := C0.1
  have hb := C0.2.1
  intro x1 x2 S H locs ls h hw hl
  unfold wp_X7_renews_22 at h
  refine lv_aload_n hx hb dX7_renews_22 rfl (lv_at hl 0 rfl) ?_
  refine gf_X7_to C0 hw dX7_renews_23 ?_
  refine lv_iload_n hx hb dX7_renews_26 rfl (lv_at hl 1 rfl) ?_
  refine ld_M_to C0 hw h.1 dX7_renews_27 ?_
  have h := h.2
  refine lv_iload_n hx hb dX7_renews_28 rfl (lv_at hl 2 rfl) ?_
  refine lv_icmp_eq (tgt := 52) hx hb dX7_renews_29 (by decide) (fun c29 => ?_) (fun c29 => ?_)
  · have h := h.1 c29
    refine lv_iconst (v := 1) hx hb dX7_renews_52 (by decide) ?_
    refine lv_goto (tgt := 57) hx hb dX7_renews_53 (by decide) ?_
    exact rtZ C0 hw rfl h dX7_renews_57
  · have h := h.2 c29
    replace hl := lv_sub hl [0, 1, 2] rfl
    exact hK32 x1 x2 S _ _ _ h hw hl
set_option maxHeartbeats 4000000 in
set_option maxRecDepth 100000 in
theorem m_X7_renews (l : Launch) (D : va_G) (ad : Nat → Nat) (cI cJ cZ : ClassId) (S : MS) (x1 : Int32) (x2 : Int32) (post : Int32 → MS → Prop) (h : wp_X7_renews S x1 x2 post) : CI (WM ad cI cJ cZ) D cI cJ cZ l yX7_renews (.code yX7_renews cX7_renews 3 (some .boolean) :: gt) rm_X7_renews S [.ref (ad 0), .int x1, .int x2] post := by
  refine enI (by decide) (Nat.le_of_ble_eq_true rfl) ?_
  intro p e s m below meth c A ls C0 hw hl
  have C0 : Cx p s m _ meth c cX7_renews 3 RX7 (some .boolean) D cI cJ cZ A := C0
  have hl : lv_has ls 3 [(0, .ref (ad 0)), (1, .int x1), (2, .int x2)] := hl
  have hx := C0.1
  have hb := C0.2.1
  unfold wp_X7_renews at h
  refine lv_aload_n hx hb dX7_renews_0 rfl (lv_at hl 0 rfl) ?_
  refine gf_X7_acts C0 hw dX7_renews_1 ?_
  refine lv_iload_n hx hb dX7_renews_4 rfl (lv_at hl 1 rfl) ?_
  refine ld_M_acts C0 hw h.1 dX7_renews_5 ?_
  have h := h.2
  refine lv_bipush (v := 7) hx hb dX7_renews_6 (by decide) ?_
  refine lv_icmp_eq (tgt := 22) hx hb dX7_renews_8 (by decide) (fun c8 => ?_) (fun c8 => ?_)
  · have h := h.1 c8
    replace hl := lv_sub hl [0, 1, 2] rfl
    exact mb_X7_renews_22 C0 _ (fun x1 x2 S H locs ls h hw hl => mb_X7_renews_32 C0 x1 x2 S _ _ ls h hw hl) x1 x2 S _ _ ls h hw hl
  · have h := h.2 c8
    refine lv_aload_n hx hb dX7_renews_11 rfl (lv_at hl 0 rfl) ?_
    refine gf_X7_acts C0 hw dX7_renews_12 ?_
    refine lv_iload_n hx hb dX7_renews_15 rfl (lv_at hl 1 rfl) ?_
    refine ld_M_acts C0 hw h.1 dX7_renews_16 ?_
    have h := h.2
    refine lv_bipush (v := 8) hx hb dX7_renews_17 (by decide) ?_
    refine lv_icmp_ne (tgt := 32) hx hb dX7_renews_19 (by decide) (fun c19 => ?_) (fun c19 => ?_)
    · have h := h.1 c19
      replace hl := lv_sub hl [0, 1, 2] rfl
      exact mb_X7_renews_32 C0 x1 x2 S _ _ ls h hw hl
    · have h := h.2 c19
      replace hl := lv_sub hl [0, 1, 2] rfl
      exact mb_X7_renews_22 C0 _ (fun x1 x2 S H locs ls h hw hl => mb_X7_renews_32 C0 x1 x2 S _ _ ls h hw hl) x1 x2 S _ _ ls h hw hl
abbrev rm_X7_walkUses : Room := { frames := 2, cells := 0, slots := 0, locals := 44 }
set_option maxHeartbeats 4000000 in
set_option maxRecDepth 100000 in
theorem mb_X7_walkUses_155 {p : Program} {l : Launch} {e : Env} {s : State} {m : MethodId} {args : Array Value} {below : List Frame} {meth : Method} {c : Code} {D : va_G} {ad : Nat → Nat} {cI cJ cZ : ClassId} {A : Nat → Prop} {post : MS → Prop} (C0 : Cx p s m args meth c cX7_walkUses 6 RX7 none D cI cJ cZ A) (K39 : Int32 → Int32 → Int32 → MS → Prop) (hK39 : ∀ (x1 : Int32) (x2 : Int32) (x3 : Int32) (S : MS) (H : Heap) (locs : List Loc) (ls : Array Slot), K39 x1 x2 x3 S → Wd (WM ad cI cJ cZ) D A s.heap H locs S → lv_has ls 6 [(0, .ref (ad 0)), (1, .int x1), (2, .int x2), (3, .int x3)] → W p l e rm_X7_walkUses s m args below meth c H locs 0 0 (QV (WM ad cI cJ cZ) D A s args below post) (F0 m 39 ls [])) :
 ∀ (x1 : Int32) (x2 : Int32) (x3 : Int32) (S : MS) (H : Heap) (locs : List Loc) (ls : Array Slot), wp_X7_walkUses_155 K39 post x1 x2 x3 S → Wd (WM ad cI cJ cZ) D A s.heap H locs S → lv_has ls 6 [(0, .ref (ad 0)), (1, .int x1), (2, .int x2), (3, .int x3)] → W p l e rm_X7_walkUses s m args below meth c H locs 0 0 (QV (WM ad cI cJ cZ) D A s args below post) (F0 m 155 ls []) := by
  have hx := C0.1
  have hb := C0.2.1
  intro x1 x2 x3 S H locs ls h hw hl
  unfold wp_X7_walkUses_155 at h
  obtain ⟨x3_1, ex3_1⟩ : ∃ y : Int32, y = x3 + (-1 : Int32) := ⟨_, rfl⟩
  refine lv_iinc (v := x3_1) (lv' := [(3, .int x3_1), (0, .ref (ad 0)), (1, .int x1), (2, .int x2)]) hx hb dX7_walkUses_155 hl (k := 3) rfl (by rw [ex3_1]; rfl) (by decide) rfl (fun ls hl => ?_)
  have h := h x3_1 ex3_1
  refine lv_goto (tgt := 39) hx hb dX7_walkUses_158 (by decide) ?_
  replace hl := lv_sub hl [1, 2, 3, 0] rfl
  exact hK39 x1 x2 x3_1 S _ _ _ h hw hl
set_option maxHeartbeats 4000000 in
set_option maxRecDepth 100000 in
theorem mb_X7_walkUses_149 {p : Program} {l : Launch} {e : Env} {s : State} {m : MethodId} {args : Array Value} {below : List Frame} {meth : Method} {c : Code} {D : va_G} {ad : Nat → Nat} {cI cJ cZ : ClassId} {A : Nat → Prop} {post : MS → Prop} (C0 : Cx p s m args meth c cX7_walkUses 6 RX7 none D cI cJ cZ A) (K72 : Int32 → Int32 → Int32 → Int32 → MS → Prop) (hK72 : ∀ (x1 : Int32) (x2 : Int32) (x3 : Int32) (x4 : Int32) (S : MS) (H : Heap) (locs : List Loc) (ls : Array Slot), K72 x1 x2 x3 x4 S → Wd (WM ad cI cJ cZ) D A s.heap H locs S → lv_has ls 6 [(0, .ref (ad 0)), (1, .int x1), (2, .int x2), (3, .int x3), (4, .int x4)] → W p l e rm_X7_walkUses s m args below meth c H locs 0 0 (QV (WM ad cI cJ cZ) D A s args below post) (F0 m 72 ls [])) :
 ∀ (x1 : Int32) (x2 : Int32) (x3 : Int32) (x4 : Int32) (S : MS) (H : Heap) (locs : List Loc) (ls : Array Slot), wp_X7_walkUses_149 K72 post x1 x2 x3 x4 S → Wd (WM ad cI cJ cZ) D A s.heap H locs S → lv_has ls 6 [(0, .ref (ad 0)), (1, .int x1), (2, .int x2), (3, .int x3), (4, .int x4)] → W p l e rm_X7_walkUses s m args below meth c H locs 0 0 (QV (WM ad cI cJ cZ) D A s args below post) (F0 m 149 ls []) := by
  have hx := C0.1
  have hb := C0.2.1
  intro x1 x2 x3 x4 S H locs ls h hw hl
  unfold wp_X7_walkUses_149 at h
  obtain ⟨x4_1, ex4_1⟩ : ∃ y : Int32, y = x4 + (1 : Int32) := ⟨_, rfl⟩
  refine lv_iinc (v := x4_1) (lv' := [(4, .int x4_1), (0, .ref (ad 0)), (1, .int x1), (2, .int x2), (3, .int x3)]) hx hb dX7_walkUses_149 hl (k := 4) rfl (by rw [ex4_1]; rfl) (by decide) rfl (fun ls hl => ?_)
  have h := h x4_1 ex4_1
  refine lv_goto (tgt := 72) hx hb dX7_walkUses_152 (by decide) ?_
  replace hl := lv_sub hl [1, 2, 3, 4, 0] rfl
  exact hK72 x1 x2 x3 x4_1 S _ _ _ h hw hl
set_option maxHeartbeats 4000000 in
set_option maxRecDepth 100000 in
theorem mb_X7_walkUses_135 {p : Program} {l : Launch} {e : Env} {s : State} {m : MethodId} {args : Array Value} {below : List Frame} {meth : Method} {c : Code} {D : va_G} {ad : Nat → Nat} {cI cJ cZ : ClassId} {A : Nat → Prop} {post : MS → Prop} (C0 : Cx p s m args meth c cX7_walkUses 6 RX7 none D cI cJ cZ A) (K149 : Int32 → Int32 → Int32 → Int32 → MS → Prop) (hK149 : ∀ (x1 : Int32) (x2 : Int32) (x3 : Int32) (x4 : Int32) (S : MS) (H : Heap) (locs : List Loc) (ls : Array Slot), K149 x1 x2 x3 x4 S → Wd (WM ad cI cJ cZ) D A s.heap H locs S → lv_has ls 6 [(0, .ref (ad 0)), (1, .int x1), (2, .int x2), (3, .int x3), (4, .int x4)] → W p l e rm_X7_walkUses s m args below meth c H locs 0 0 (QV (WM ad cI cJ cZ) D A s args below post) (F0 m 149 ls [])) :
 ∀ (x1 : Int32) (x3 : Int32) (x4 : Int32) (S : MS) (H : Heap) (locs : List Loc) (ls : Array Slot), wp_X7_walkUses_135 K149 post x1 x3 x4 S → Wd (WM ad cI cJ cZ) D A s.heap H locs S → lv_has ls 6 [(0, .ref (ad 0)), (1, .int x1), (3, .int x3), (4, .int x4)] → W p l e rm_X7_walkUses s m args below meth c H locs 0 0 (QV (WM ad cI cJ cZ) D A s args below post) (F0 m 135 ls []) := by
  have hx := C0.1
  have hb := C0.2.1
  intro x1 x3 x4 S H locs ls h hw hl
  unfold wp_X7_walkUses_135 at h
  refine lv_aload_n hx hb dX7_walkUses_135 rfl (lv_at hl 0 rfl) ?_
  refine gf_X7_used C0 hw dX7_walkUses_136 ?_
  refine lv_bipush (v := 16) hx hb dX7_walkUses_139 (by decide) ?_
  refine lv_iload_n hx hb dX7_walkUses_141 rfl (lv_at hl 2 rfl) ?_
  refine lv_imul hx hb dX7_walkUses_142 ?_
  refine lv_iload_n hx hb dX7_walkUses_143 rfl (lv_at hl 1 rfl) ?_
  refine lv_iadd hx hb dX7_walkUses_144 ?_
  refine lv_iconst (v := 1) hx hb dX7_walkUses_145 (by decide) ?_
  refine st_M_used C0 hw h.1 dX7_walkUses_146 (fun H locs hw => ?_)
  have h := h.2
  obtain ⟨S_1, eS_1⟩ : ∃ z, z = sM_used S (upd (gM_used S) (((16 : Int32) * x3) + x1).toNatClampNeg (vp_nar .boolean (1 : Int32))) := ⟨_, rfl⟩
  rw [← eS_1] at hw
  have h := h S_1 eS_1
  refine lv_iconst (v := 1) hx hb dX7_walkUses_147 (by decide) ?_
  refine lv_istore_n (lv' := [(2, .int (1 : Int32)), (0, .ref (ad 0)), (1, .int x1), (3, .int x3), (4, .int x4)]) hx hb dX7_walkUses_148 rfl hl (by decide) rfl (fun ls hl => ?_)
  replace hl := lv_sub hl [1, 2, 0, 3, 4] rfl
  exact hK149 x1 (1 : Int32) x3 x4 S_1 _ _ _ h hw hl
set_option maxHeartbeats 4000000 in
set_option maxRecDepth 100000 in
theorem mb_X7_walkUses_72 {p : Program} {l : Launch} {e : Env} {s : State} {m : MethodId} {args : Array Value} {below : List Frame} {meth : Method} {c : Code} {D : va_G} {ad : Nat → Nat} {cI cJ cZ : ClassId} {A : Nat → Prop} {post : MS → Prop} (C0 : Cx p s m args meth c cX7_walkUses 6 RX7 none D cI cJ cZ A) (K155 : Int32 → Int32 → Int32 → MS → Prop) (hK155 : ∀ (x1 : Int32) (x2 : Int32) (x3 : Int32) (S : MS) (H : Heap) (locs : List Loc) (ls : Array Slot), K155 x1 x2 x3 S → Wd (WM ad cI cJ cZ) D A s.heap H locs S → lv_has ls 6 [(0, .ref (ad 0)), (1, .int x1), (2, .int x2), (3, .int x3)] → W p l e rm_X7_walkUses s m args below meth c H locs 0 0 (QV (WM ad cI cJ cZ) D A s args below post) (F0 m 155 ls [])) :
 ∀ (n : Nat) (x1 : Int32) (x2 : Int32) (x3 : Int32) (x4 : Int32) (S : MS) (H : Heap) (locs : List Loc) (ls : Array Slot), wp_X7_walkUses_72 K155 post n x1 x2 x3 x4 S → Wd (WM ad cI cJ cZ) D A s.heap H locs S → lv_has ls 6 [(0, .ref (ad 0)), (1, .int x1), (2, .int x2), (3, .int x3), (4, .int x4)] → W p l e rm_X7_walkUses s m args below meth c H locs 0 0 (QV (WM ad cI cJ cZ) D A s args below post) (F0 m 72 ls []) := by
  have hx := C0.1
  have hb := C0.2.1
  intro n
  induction n with
  | zero => intro x1 x2 x3 x4 S H locs ls h; exact h.elim
  | succ n ih =>
    intro x1 x2 x3 x4 S H locs ls h hw hl
    replace h : ws_X7_walkUses_72 (wp_X7_walkUses_72 K155 post n) K155 post x1 x2 x3 x4 S := h
    unfold ws_X7_walkUses_72 at h
    refine lv_iload hx hb dX7_walkUses_72 (lv_at hl 4 rfl) ?_
    refine lv_iconst (v := 4) hx hb dX7_walkUses_74 (by decide) ?_
    refine lv_icmp_ge (tgt := 155) hx hb dX7_walkUses_75 (by decide) (fun c75 => ?_) (fun c75 => ?_)
    · have h := h.1 c75
      replace hl := lv_sub hl [0, 1, 2, 3] rfl
      exact hK155 x1 x2 x3 S _ _ _ h hw hl
    · have h := h.2 c75
      refine lv_aload_n hx hb dX7_walkUses_78 rfl (lv_at hl 0 rfl) ?_
      refine gf_X7_nexts C0 hw dX7_walkUses_79 ?_
      refine lv_iconst (v := 4) hx hb dX7_walkUses_82 (by decide) ?_
      refine lv_iload_n hx hb dX7_walkUses_83 rfl (lv_at hl 3 rfl) ?_
      refine lv_imul hx hb dX7_walkUses_84 ?_
      refine lv_iload hx hb dX7_walkUses_85 (lv_at hl 4 rfl) ?_
      refine lv_iadd hx hb dX7_walkUses_87 ?_
      refine ld_M_nexts C0 hw h.1 dX7_walkUses_88 ?_
      have h := h.2
      refine lv_topi (fun x5_1 ex5_1 => ?_)
      have h := h x5_1 ex5_1
      refine lv_istore (lv' := [(5, .int x5_1), (0, .ref (ad 0)), (1, .int x1), (2, .int x2), (3, .int x3), (4, .int x4)]) hx hb dX7_walkUses_89 hl (by decide) rfl (fun ls hl => ?_)
      refine lv_iload hx hb dX7_walkUses_91 (lv_at hl 0 rfl) ?_
      refine lv_iconst (v := -1) hx hb dX7_walkUses_93 (by decide) ?_
      refine lv_icmp_eq (tgt := 149) hx hb dX7_walkUses_94 (by decide) (fun c94 => ?_) (fun c94 => ?_)
      · have h := h.1 c94
        replace hl := lv_sub hl [1, 2, 3, 4, 5] rfl
        exact mb_X7_walkUses_149 C0 _ ih x1 x2 x3 x4 S _ _ ls h hw hl
      · have h := h.2 c94
        refine lv_aload_n hx hb dX7_walkUses_97 rfl (lv_at hl 1 rfl) ?_
        refine lv_iload hx hb dX7_walkUses_98 (lv_at hl 0 rfl) ?_
        refine lv_iload_n hx hb dX7_walkUses_100 rfl (lv_at hl 2 rfl) ?_
        refine clVI (As := [.int x5_1, .int x1]) (rest := []) (ci := 6) (k := 0) C0 (m_X7_uses l D ad cI cJ cZ S x5_1 x1 _ h) cal_X7_uses kw_319 kw_318 kw_317 rfl rfl rfl rfl hl.1 rfl (Nat.le_of_ble_eq_true rfl) ⟨Nat.le_of_ble_eq_true rfl, Nat.le_of_ble_eq_true rfl⟩ rfl rfl dX7_walkUses_101 hw (fun r101 S101 H locs h hw => ?_)
        replace h := h
        refine lv_if_ne (tgt := 135) hx hb dX7_walkUses_104 (by decide) (fun c104 => ?_) (fun c104 => ?_)
        · have h := h.1 c104
          replace hl := lv_sub hl [1, 2, 4, 5] rfl
          exact mb_X7_walkUses_135 C0 _ (fun x1 x2 x3 x4 S H locs ls h hw hl => mb_X7_walkUses_149 C0 _ ih x1 x2 x3 x4 S _ _ ls h hw hl) x1 x3 x4 S101 _ _ ls h hw hl
        · have h := h.2 c104
          refine lv_aload_n hx hb dX7_walkUses_107 rfl (lv_at hl 1 rfl) ?_
          refine lv_iload hx hb dX7_walkUses_108 (lv_at hl 0 rfl) ?_
          refine lv_iload_n hx hb dX7_walkUses_110 rfl (lv_at hl 2 rfl) ?_
          refine clVI (As := [.int x5_1, .int x1]) (rest := []) (ci := 6) (k := 0) C0 (m_X7_renews l D ad cI cJ cZ S101 x5_1 x1 _ h) cal_X7_renews kw_322 kw_321 kw_320 rfl rfl rfl rfl hl.1 rfl (Nat.le_of_ble_eq_true rfl) ⟨Nat.le_of_ble_eq_true rfl, Nat.le_of_ble_eq_true rfl⟩ rfl rfl dX7_walkUses_111 hw (fun r111 S111 H locs h hw => ?_)
          replace h := h
          refine lv_if_ne (tgt := 149) hx hb dX7_walkUses_114 (by decide) (fun c114 => ?_) (fun c114 => ?_)
          · have h := h.1 c114
            replace hl := lv_sub hl [1, 2, 3, 4, 5] rfl
            exact mb_X7_walkUses_149 C0 _ ih x1 x2 x3 x4 S111 _ _ ls h hw hl
          · have h := h.2 c114
            refine lv_aload_n hx hb dX7_walkUses_117 rfl (lv_at hl 1 rfl) ?_
            refine gf_X7_used C0 hw dX7_walkUses_118 ?_
            refine lv_bipush (v := 16) hx hb dX7_walkUses_121 (by decide) ?_
            refine lv_iload hx hb dX7_walkUses_123 (lv_at hl 0 rfl) ?_
            refine lv_imul hx hb dX7_walkUses_125 ?_
            refine lv_iload_n hx hb dX7_walkUses_126 rfl (lv_at hl 2 rfl) ?_
            refine lv_iadd hx hb dX7_walkUses_127 ?_
            refine ld_M_used C0 hw h.1 dX7_walkUses_128 ?_
            have h := h.2
            refine lv_if_ne (tgt := 135) hx hb dX7_walkUses_129 (by decide) (fun c129 => ?_) (fun c129 => ?_)
            · have h := h.1 c129
              replace hl := lv_sub hl [1, 2, 4, 5] rfl
              exact mb_X7_walkUses_135 C0 _ (fun x1 x2 x3 x4 S H locs ls h hw hl => mb_X7_walkUses_149 C0 _ ih x1 x2 x3 x4 S _ _ ls h hw hl) x1 x3 x4 S111 _ _ ls h hw hl
            · have h := h.2 c129
              refine lv_goto (tgt := 149) hx hb dX7_walkUses_132 (by decide) ?_
              replace hl := lv_sub hl [1, 2, 3, 4, 5] rfl
              exact mb_X7_walkUses_149 C0 _ ih x1 x2 x3 x4 S111 _ _ ls h hw hl
set_option maxHeartbeats 4000000 in
set_option maxRecDepth 100000 in
theorem mb_X7_walkUses_39 {p : Program} {l : Launch} {e : Env} {s : State} {m : MethodId} {args : Array Value} {below : List Frame} {meth : Method} {c : Code} {D : va_G} {ad : Nat → Nat} {cI cJ cZ : ClassId} {A : Nat → Prop} {post : MS → Prop} (C0 : Cx p s m args meth c cX7_walkUses 6 RX7 none D cI cJ cZ A) (K29 : Int32 → Int32 → MS → Prop) (hK29 : ∀ (x1 : Int32) (x2 : Int32) (S : MS) (H : Heap) (locs : List Loc) (ls : Array Slot), K29 x1 x2 S → Wd (WM ad cI cJ cZ) D A s.heap H locs S → lv_has ls 6 [(0, .ref (ad 0)), (1, .int x1), (2, .int x2)] → W p l e rm_X7_walkUses s m args below meth c H locs 0 0 (QV (WM ad cI cJ cZ) D A s args below post) (F0 m 29 ls [])) :
 ∀ (n : Nat) (x1 : Int32) (x2 : Int32) (x3 : Int32) (S : MS) (H : Heap) (locs : List Loc) (ls : Array Slot), wp_X7_walkUses_39 K29 post n x1 x2 x3 S → Wd (WM ad cI cJ cZ) D A s.heap H locs S → lv_has ls 6 [(0, .ref (ad 0)), (1, .int x1), (2, .int x2), (3, .int x3)] → W p l e rm_X7_walkUses s m args below meth c H locs 0 0 (QV (WM ad cI cJ cZ) D A s args below post) (F0 m 39 ls []) := by
  have hx := C0.1
  have hb := C0.2.1
  intro n
  induction n with
  | zero => intro x1 x2 x3 S H locs ls h; exact h.elim
  | succ n ih =>
    intro x1 x2 x3 S H locs ls h hw hl
    replace h : ws_X7_walkUses_39 (wp_X7_walkUses_39 K29 post n) K29 post x1 x2 x3 S := h
    unfold ws_X7_walkUses_39 at h
    refine lv_iload_n hx hb dX7_walkUses_39 rfl (lv_at hl 3 rfl) ?_
    refine lv_if_lt (tgt := 161) hx hb dX7_walkUses_40 (by decide) (fun c40 => ?_) (fun c40 => ?_)
    · have h := h.1 c40
      refine lv_goto (tgt := 29) hx hb dX7_walkUses_161 (by decide) ?_
      replace hl := lv_sub hl [0, 1, 2] rfl
      exact hK29 x1 x2 S _ _ _ h hw hl
    · have h := h.2 c40
      refine lv_aload_n hx hb dX7_walkUses_43 rfl (lv_at hl 0 rfl) ?_
      refine gf_X7_come C0 hw dX7_walkUses_44 ?_
      refine lv_iload_n hx hb dX7_walkUses_47 rfl (lv_at hl 3 rfl) ?_
      refine ld_M_come C0 hw h.1 dX7_walkUses_48 ?_
      have h := h.2
      refine lv_if_eq (tgt := 155) hx hb dX7_walkUses_49 (by decide) (fun c49 => ?_) (fun c49 => ?_)
      · have h := h.1 c49
        replace hl := lv_sub hl [0, 1, 2, 3] rfl
        exact mb_X7_walkUses_155 C0 _ ih x1 x2 x3 S _ _ ls h hw hl
      · have h := h.2 c49
        refine lv_aload_n hx hb dX7_walkUses_52 rfl (lv_at hl 0 rfl) ?_
        refine gf_X7_used C0 hw dX7_walkUses_53 ?_
        refine lv_bipush (v := 16) hx hb dX7_walkUses_56 (by decide) ?_
        refine lv_iload_n hx hb dX7_walkUses_58 rfl (lv_at hl 3 rfl) ?_
        refine lv_imul hx hb dX7_walkUses_59 ?_
        refine lv_iload_n hx hb dX7_walkUses_60 rfl (lv_at hl 1 rfl) ?_
        refine lv_iadd hx hb dX7_walkUses_61 ?_
        refine ld_M_used C0 hw h.1 dX7_walkUses_62 ?_
        have h := h.2
        refine lv_if_eq (tgt := 69) hx hb dX7_walkUses_63 (by decide) (fun c63 => ?_) (fun c63 => ?_)
        · have h := h.1 c63
          refine lv_iconst (v := 0) hx hb dX7_walkUses_69 (by decide) ?_
          refine lv_istore (lv' := [(4, .int (0 : Int32)), (0, .ref (ad 0)), (1, .int x1), (2, .int x2), (3, .int x3)]) hx hb dX7_walkUses_70 hl (by decide) rfl (fun ls hl => ?_)
          replace hl := lv_sub hl [1, 2, 3, 4, 0] rfl
          obtain ⟨n, h⟩ := h
          exact mb_X7_walkUses_72 C0 _ (fun x1 x2 x3 S H locs ls h hw hl => mb_X7_walkUses_155 C0 _ ih x1 x2 x3 S _ _ ls h hw hl) n x1 x2 x3 (0 : Int32) S _ _ ls h hw hl
        · have h := h.2 c63
          refine lv_goto (tgt := 155) hx hb dX7_walkUses_66 (by decide) ?_
          replace hl := lv_sub hl [0, 1, 2, 3] rfl
          exact mb_X7_walkUses_155 C0 _ ih x1 x2 x3 S _ _ ls h hw hl
set_option maxHeartbeats 4000000 in
set_option maxRecDepth 100000 in
theorem mb_X7_walkUses_29 {p : Program} {l : Launch} {e : Env} {s : State} {m : MethodId} {args : Array Value} {below : List Frame} {meth : Method} {c : Code} {D : va_G} {ad : Nat → Nat} {cI cJ cZ : ClassId} {A : Nat → Prop} {post : MS → Prop} (C0 : Cx p s m args meth c cX7_walkUses 6 RX7 none D cI cJ cZ A) :
 ∀ (n : Nat) (x1 : Int32) (x2 : Int32) (S : MS) (H : Heap) (locs : List Loc) (ls : Array Slot), wp_X7_walkUses_29 post n x1 x2 S → Wd (WM ad cI cJ cZ) D A s.heap H locs S → lv_has ls 6 [(0, .ref (ad 0)), (1, .int x1), (2, .int x2)] → W p l e rm_X7_walkUses s m args below meth c H locs 0 0 (QV (WM ad cI cJ cZ) D A s args below post) (F0 m 29 ls []) := by
  have hx := C0.1
  have hb := C0.2.1
  intro n
  induction n with
  | zero => intro x1 x2 S H locs ls h; exact h.elim
  | succ n ih =>
    intro x1 x2 S H locs ls h hw hl
    replace h : ws_X7_walkUses_29 (wp_X7_walkUses_29  post n)  post x1 x2 S := h
    unfold ws_X7_walkUses_29 at h
    refine lv_iload_n hx hb dX7_walkUses_29 rfl (lv_at hl 2 rfl) ?_
    refine lv_if_eq (tgt := 164) hx hb dX7_walkUses_30 (by decide) (fun c30 => ?_) (fun c30 => ?_)
    · have h := h.1 c30
      exact rtV C0 hw h dX7_walkUses_164
    · have h := h.2 c30
      refine lv_iconst (v := 0) hx hb dX7_walkUses_33 (by decide) ?_
      refine lv_istore_n (lv' := [(2, .int (0 : Int32)), (0, .ref (ad 0)), (1, .int x1)]) hx hb dX7_walkUses_34 rfl hl (by decide) rfl (fun ls hl => ?_)
      refine lv_sipush (v := 149) hx hb dX7_walkUses_35 (by decide) ?_
      refine lv_istore_n (lv' := [(3, .int (149 : Int32)), (2, .int (0 : Int32)), (0, .ref (ad 0)), (1, .int x1)]) hx hb dX7_walkUses_38 rfl hl (by decide) rfl (fun ls hl => ?_)
      replace hl := lv_sub hl [2, 3, 1, 0] rfl
      obtain ⟨n, h⟩ := h
      exact mb_X7_walkUses_39 C0 _ ih n x1 (0 : Int32) (149 : Int32) S _ _ ls h hw hl
set_option maxHeartbeats 4000000 in
set_option maxRecDepth 100000 in
theorem mb_X7_walkUses_2 {p : Program} {l : Launch} {e : Env} {s : State} {m : MethodId} {args : Array Value} {below : List Frame} {meth : Method} {c : Code} {D : va_G} {ad : Nat → Nat} {cI cJ cZ : ClassId} {A : Nat → Prop} {post : MS → Prop} (C0 : Cx p s m args meth c cX7_walkUses 6 RX7 none D cI cJ cZ A) :
 ∀ (n : Nat) (x1 : Int32) (x2 : Int32) (S : MS) (H : Heap) (locs : List Loc) (ls : Array Slot), wp_X7_walkUses_2 post n x1 x2 S → Wd (WM ad cI cJ cZ) D A s.heap H locs S → lv_has ls 6 [(0, .ref (ad 0)), (1, .int x1), (2, .int x2)] → W p l e rm_X7_walkUses s m args below meth c H locs 0 0 (QV (WM ad cI cJ cZ) D A s args below post) (F0 m 2 ls []) := by
  have hx := C0.1
  have hb := C0.2.1
  intro n
  induction n with
  | zero => intro x1 x2 S H locs ls h; exact h.elim
  | succ n ih =>
    intro x1 x2 S H locs ls h hw hl
    replace h : ws_X7_walkUses_2 (wp_X7_walkUses_2  post n)  post x1 x2 S := h
    unfold ws_X7_walkUses_2 at h
    refine lv_iload_n hx hb dX7_walkUses_2 rfl (lv_at hl 2 rfl) ?_
    refine lv_sipush (v := 150) hx hb dX7_walkUses_3 (by decide) ?_
    refine lv_icmp_ge (tgt := 27) hx hb dX7_walkUses_6 (by decide) (fun c6 => ?_) (fun c6 => ?_)
    · have h := h.1 c6
      refine lv_iconst (v := 1) hx hb dX7_walkUses_27 (by decide) ?_
      refine lv_istore_n (lv' := [(2, .int (1 : Int32)), (0, .ref (ad 0)), (1, .int x1)]) hx hb dX7_walkUses_28 rfl hl (by decide) rfl (fun ls hl => ?_)
      replace hl := lv_sub hl [1, 2, 0] rfl
      obtain ⟨n, h⟩ := h
      exact mb_X7_walkUses_29 C0 n x1 (1 : Int32) S _ _ ls h hw hl
    · have h := h.2 c6
      refine lv_aload_n hx hb dX7_walkUses_9 rfl (lv_at hl 0 rfl) ?_
      refine gf_X7_used C0 hw dX7_walkUses_10 ?_
      refine lv_bipush (v := 16) hx hb dX7_walkUses_13 (by decide) ?_
      refine lv_iload_n hx hb dX7_walkUses_15 rfl (lv_at hl 2 rfl) ?_
      refine lv_imul hx hb dX7_walkUses_16 ?_
      refine lv_iload_n hx hb dX7_walkUses_17 rfl (lv_at hl 1 rfl) ?_
      refine lv_iadd hx hb dX7_walkUses_18 ?_
      refine lv_iconst (v := 0) hx hb dX7_walkUses_19 (by decide) ?_
      refine st_M_used C0 hw h.1 dX7_walkUses_20 (fun H locs hw => ?_)
      have h := h.2
      obtain ⟨S_1, eS_1⟩ : ∃ z, z = sM_used S (upd (gM_used S) (((16 : Int32) * x2) + x1).toNatClampNeg (vp_nar .boolean (0 : Int32))) := ⟨_, rfl⟩
      rw [← eS_1] at hw
      have h := h S_1 eS_1
      obtain ⟨x2_2, ex2_2⟩ : ∃ y : Int32, y = x2 + (1 : Int32) := ⟨_, rfl⟩
      refine lv_iinc (v := x2_2) (lv' := [(2, .int x2_2), (0, .ref (ad 0)), (1, .int x1)]) hx hb dX7_walkUses_21 hl (k := 2) rfl (by rw [ex2_2]; rfl) (by decide) rfl (fun ls hl => ?_)
      have h := h x2_2 ex2_2
      refine lv_goto (tgt := 2) hx hb dX7_walkUses_24 (by decide) ?_
      replace hl := lv_sub hl [1, 2, 0] rfl
      exact ih x1 x2_2 S_1 _ _ _ h hw hl
set_option maxHeartbeats 4000000 in
set_option maxRecDepth 100000 in
theorem m_X7_walkUses (l : Launch) (D : va_G) (ad : Nat → Nat) (cI cJ cZ : ClassId) (S : MS) (x1 : Int32) (post : MS → Prop) (h : wp_X7_walkUses S x1 post) : CV (WM ad cI cJ cZ) D cI cJ cZ l yX7_walkUses (.code yX7_walkUses cX7_walkUses 6 none :: gt) rm_X7_walkUses S [.ref (ad 0), .int x1] post := by
  refine enV (by decide) (Nat.le_of_ble_eq_true rfl) ?_
  intro p e s m below meth c A ls C0 hw hl
  have C0 : Cx p s m _ meth c cX7_walkUses 6 RX7 none D cI cJ cZ A := C0
  have hl : lv_has ls 6 [(0, .ref (ad 0)), (1, .int x1)] := hl
  have hx := C0.1
  have hb := C0.2.1
  unfold wp_X7_walkUses at h
  refine lv_iconst (v := 0) hx hb dX7_walkUses_0 (by decide) ?_
  refine lv_istore_n (lv' := [(2, .int (0 : Int32)), (0, .ref (ad 0)), (1, .int x1)]) hx hb dX7_walkUses_1 rfl hl (by decide) rfl (fun ls hl => ?_)
  replace hl := lv_sub hl [1, 2, 0] rfl
  obtain ⟨n, h⟩ := h
  exact mb_X7_walkUses_2 C0 n x1 (0 : Int32) S _ _ ls h hw hl
abbrev rm_X7_come_lost : Room := { frames := 0, cells := 0, slots := 0, locals := 0 }
set_option maxHeartbeats 4000000 in
set_option maxRecDepth 100000 in
theorem m_X7_come_lost (l : Launch) (D : va_G) (ad : Nat → Nat) (cI cJ cZ : ClassId) (S : MS) (x2 : Int32) (x3 : Int32) (post : MS → Prop) (h : wp_X7_come_lost S x2 x3 post) : CV (WM ad cI cJ cZ) D cI cJ cZ l yX7_come (.code yX7_come cX7_come 4 none :: gt) rm_X7_come_lost S [.ref (ad 0), .ref (ad 10), .int x2, .int x3] post := by
  refine enV (by decide) (Nat.le_of_ble_eq_true rfl) ?_
  intro p e s m below meth c A ls C0 hw hl
  have C0 : Cx p s m _ meth c cX7_come 4 RX7 none D cI cJ cZ A := C0
  have hl : lv_has ls 4 [(0, .ref (ad 0)), (1, .ref (ad 10)), (2, .int x2), (3, .int x3)] := hl
  have hx := C0.1
  have hb := C0.2.1
  unfold wp_X7_come_lost at h
  refine lv_aload_n hx hb dX7_come_0 rfl (lv_at hl 1 rfl) ?_
  refine lv_iload_n hx hb dX7_come_1 rfl (lv_at hl 2 rfl) ?_
  refine ld_M_lost C0 hw h.1 dX7_come_2 ?_
  have h := h.2
  refine lv_if_eq (tgt := 7) hx hb dX7_come_3 (by decide) (fun c3 => ?_) (fun c3 => ?_)
  · have h := h.1 c3
    refine lv_aload_n hx hb dX7_come_7 rfl (lv_at hl 1 rfl) ?_
    refine lv_iload_n hx hb dX7_come_8 rfl (lv_at hl 2 rfl) ?_
    refine lv_iconst (v := 1) hx hb dX7_come_9 (by decide) ?_
    refine st_M_lost C0 hw h.1 dX7_come_10 (fun H locs hw => ?_)
    have h := h.2
    obtain ⟨S_1, eS_1⟩ : ∃ z, z = sM_lost S (upd (gM_lost S) (x2).toNatClampNeg (vp_nar .boolean (1 : Int32))) := ⟨_, rfl⟩
    rw [← eS_1] at hw
    have h := h S_1 eS_1
    refine lv_aload_n hx hb dX7_come_11 rfl (lv_at hl 0 rfl) ?_
    refine gf_X7_pile C0 hw dX7_come_12 ?_
    refine lv_aload_n hx hb dX7_come_15 rfl (lv_at hl 0 rfl) ?_
    refine gf_X7_piled C0 hw dX7_come_16 ?_
    refine lv_iload_n hx hb dX7_come_19 rfl (lv_at hl 3 rfl) ?_
    refine st_M_pile C0 hw h.1 dX7_come_20 (fun H locs hw => ?_)
    have h := h.2
    obtain ⟨S_2, eS_2⟩ : ∃ z, z = sM_pile S_1 (upd (gM_pile S_1) (gM_piled S_1).toNatClampNeg x3) := ⟨_, rfl⟩
    rw [← eS_2] at hw
    have h := h S_2 eS_2
    refine lv_aload_n hx hb dX7_come_21 rfl (lv_at hl 0 rfl) ?_
    refine lv_dup hx hb dX7_come_22 rfl ?_
    refine gf_X7_piled C0 hw dX7_come_23 ?_
    refine lv_iconst (v := 1) hx hb dX7_come_26 (by decide) ?_
    refine lv_iadd hx hb dX7_come_27 ?_
    refine pf_X7_piled C0 hw dX7_come_28 (fun H locs hw => ?_)
    obtain ⟨S_3, eS_3⟩ : ∃ z, z = sM_piled S_2 ((gM_piled S_2) + (1 : Int32)) := ⟨_, rfl⟩
    rw [← eS_3] at hw
    have h := h S_3 eS_3
    exact rtV C0 hw h dX7_come_31
  · have h := h.2 c3
    exact rtV C0 hw h dX7_come_6
abbrev rm_X7_isLeafOf : Room := { frames := 0, cells := 0, slots := 0, locals := 0 }
set_option maxHeartbeats 4000000 in
set_option maxRecDepth 100000 in
theorem m_X7_isLeafOf (l : Launch) (D : va_G) (ad : Nat → Nat) (cI cJ cZ : ClassId) (S : MS) (x1 : Int32) (x2 : Int32) (post : Int32 → MS → Prop) (h : wp_X7_isLeafOf S x1 x2 post) : CI (WM ad cI cJ cZ) D cI cJ cZ l yX7_isLeafOf (.code yX7_isLeafOf cX7_isLeafOf 3 (some .boolean) :: gt) rm_X7_isLeafOf S [.ref (ad 0), .int x1, .int x2] post := by
  refine enI (by decide) (Nat.le_of_ble_eq_true rfl) ?_
  intro p e s m below meth c A ls C0 hw hl
  have C0 : Cx p s m _ meth c cX7_isLeafOf 3 RX7 (some .boolean) D cI cJ cZ A := C0
  have hl : lv_has ls 3 [(0, .ref (ad 0)), (1, .int x1), (2, .int x2)] := hl
  have hx := C0.1
  have hb := C0.2.1
  unfold wp_X7_isLeafOf at h
  refine lv_aload_n hx hb dX7_isLeafOf_0 rfl (lv_at hl 0 rfl) ?_
  refine gf_X7_leaves C0 hw dX7_isLeafOf_1 ?_
  refine lv_aload_n hx hb dX7_isLeafOf_4 rfl (lv_at hl 0 rfl) ?_
  refine gf_X7_of C0 hw dX7_isLeafOf_5 ?_
  refine lv_iload_n hx hb dX7_isLeafOf_8 rfl (lv_at hl 1 rfl) ?_
  refine ld_M_of C0 hw h.1 dX7_isLeafOf_9 ?_
  have h := h.2
  refine ld_M_lvs C0 hw h.1 dX7_isLeafOf_10 ?_
  have h := h.2
  refine lv_iconst (v := 1) hx hb dX7_isLeafOf_11 (by decide) ?_
  refine lv_icmp_eq (tgt := 39) hx hb dX7_isLeafOf_12 (by decide) (fun c12 => ?_) (fun c12 => ?_)
  · have h := h.1 c12
    refine lv_iconst (v := 1) hx hb dX7_isLeafOf_39 (by decide) ?_
    refine lv_goto (tgt := 44) hx hb dX7_isLeafOf_40 (by decide) ?_
    exact rtZ C0 hw rfl h dX7_isLeafOf_44
  · have h := h.2 c12
    refine lv_aload_n hx hb dX7_isLeafOf_15 rfl (lv_at hl 0 rfl) ?_
    refine gf_X7_path C0 hw dX7_isLeafOf_16 ?_
    refine lv_iload_n hx hb dX7_isLeafOf_19 rfl (lv_at hl 1 rfl) ?_
    refine ld_M_path C0 hw h.1 dX7_isLeafOf_20 ?_
    have h := h.2
    refine lv_if_eq (tgt := 39) hx hb dX7_isLeafOf_21 (by decide) (fun c21 => ?_) (fun c21 => ?_)
    · have h := h.1 c21
      refine lv_iconst (v := 1) hx hb dX7_isLeafOf_39 (by decide) ?_
      refine lv_goto (tgt := 44) hx hb dX7_isLeafOf_40 (by decide) ?_
      exact rtZ C0 hw rfl h dX7_isLeafOf_44
    · have h := h.2 c21
      refine lv_aload_n hx hb dX7_isLeafOf_24 rfl (lv_at hl 0 rfl) ?_
      refine gf_X7_path C0 hw dX7_isLeafOf_25 ?_
      refine lv_iload_n hx hb dX7_isLeafOf_28 rfl (lv_at hl 1 rfl) ?_
      refine ld_M_path C0 hw h.1 dX7_isLeafOf_29 ?_
      have h := h.2
      refine lv_bipush (v := 8) hx hb dX7_isLeafOf_30 (by decide) ?_
      refine lv_irem hx hb dX7_isLeafOf_32 (by decide) ?_
      refine lv_iload_n hx hb dX7_isLeafOf_33 rfl (lv_at hl 2 rfl) ?_
      refine lv_iconst (v := 1) hx hb dX7_isLeafOf_34 (by decide) ?_
      refine lv_iadd hx hb dX7_isLeafOf_35 ?_
      refine lv_icmp_ne (tgt := 43) hx hb dX7_isLeafOf_36 (by decide) (fun c36 => ?_) (fun c36 => ?_)
      · have h := h.1 c36
        refine lv_iconst (v := 0) hx hb dX7_isLeafOf_43 (by decide) ?_
        exact rtZ C0 hw rfl h dX7_isLeafOf_44
      · have h := h.2 c36
        refine lv_iconst (v := 1) hx hb dX7_isLeafOf_39 (by decide) ?_
        refine lv_goto (tgt := 44) hx hb dX7_isLeafOf_40 (by decide) ?_
        exact rtZ C0 hw rfl h dX7_isLeafOf_44
abbrev rm_X7_gives : Room := { frames := 1, cells := 0, slots := 0, locals := 22 }
set_option maxHeartbeats 4000000 in
set_option maxRecDepth 100000 in
theorem mb_X7_gives_22 {p : Program} {l : Launch} {e : Env} {s : State} {m : MethodId} {args : Array Value} {below : List Frame} {meth : Method} {c : Code} {D : va_G} {ad : Nat → Nat} {cI cJ cZ : ClassId} {A : Nat → Prop} {post : Int32 → MS → Prop} (C0 : Cx p s m args meth c cX7_gives 4 RX7 (some .boolean) D cI cJ cZ A) :
 ∀ (x1 : Int32) (x2 : Int32) (S : MS) (H : Heap) (locs : List Loc) (ls : Array Slot), wp_X7_gives_22 post x1 x2 S → Wd (WM ad cI cJ cZ) D A s.heap H locs S → lv_has ls 4 [(0, .ref (ad 0)), (1, .int x1), (2, .int x2)] → W p l e rm_X7_gives s m args below meth c H locs 0 0 (QI (WM ad cI cJ cZ) D A s args below post) (F0 m 22 ls []) := by
  have hx := C0.1
  have hb := C0.2.1
  intro x1 x2 S H locs ls h hw hl
  unfold wp_X7_gives_22 at h
  refine lv_aload_n hx hb dX7_gives_22 rfl (lv_at hl 0 rfl) ?_
  refine gf_X7_to C0 hw dX7_gives_23 ?_
  refine lv_iload_n hx hb dX7_gives_26 rfl (lv_at hl 1 rfl) ?_
  refine ld_M_to C0 hw h.1 dX7_gives_27 ?_
  have h := h.2
  refine lv_iload_n hx hb dX7_gives_28 rfl (lv_at hl 2 rfl) ?_
  refine lv_icmp_ne (tgt := 36) hx hb dX7_gives_29 (by decide) (fun c29 => ?_) (fun c29 => ?_)
  · have h := h.1 c29
    refine lv_iconst (v := 0) hx hb dX7_gives_36 (by decide) ?_
    exact rtZ C0 hw rfl h dX7_gives_37
  · have h := h.2 c29
    refine lv_iconst (v := 1) hx hb dX7_gives_32 (by decide) ?_
    refine lv_goto (tgt := 37) hx hb dX7_gives_33 (by decide) ?_
    exact rtZ C0 hw rfl h dX7_gives_37
set_option maxHeartbeats 4000000 in
set_option maxRecDepth 100000 in
theorem m_X7_gives (l : Launch) (D : va_G) (ad : Nat → Nat) (cI cJ cZ : ClassId) (S : MS) (x1 : Int32) (x2 : Int32) (x3 : Int32) (post : Int32 → MS → Prop) (h : wp_X7_gives S x1 x2 x3 post) : CI (WM ad cI cJ cZ) D cI cJ cZ l yX7_gives (.code yX7_gives cX7_gives 4 (some .boolean) :: gt) rm_X7_gives S [.ref (ad 0), .int x1, .int x2, .int x3] post := by
  refine enI (by decide) (Nat.le_of_ble_eq_true rfl) ?_
  intro p e s m below meth c A ls C0 hw hl
  have C0 : Cx p s m _ meth c cX7_gives 4 RX7 (some .boolean) D cI cJ cZ A := C0
  have hl : lv_has ls 4 [(0, .ref (ad 0)), (1, .int x1), (2, .int x2), (3, .int x3)] := hl
  have hx := C0.1
  have hb := C0.2.1
  unfold wp_X7_gives at h
  refine lv_aload_n hx hb dX7_gives_0 rfl (lv_at hl 0 rfl) ?_
  refine gf_X7_acts C0 hw dX7_gives_1 ?_
  refine lv_iload_n hx hb dX7_gives_4 rfl (lv_at hl 1 rfl) ?_
  refine ld_M_acts C0 hw h.1 dX7_gives_5 ?_
  have h := h.2
  refine lv_bipush (v := 7) hx hb dX7_gives_6 (by decide) ?_
  refine lv_icmp_eq (tgt := 22) hx hb dX7_gives_8 (by decide) (fun c8 => ?_) (fun c8 => ?_)
  · have h := h.1 c8
    replace hl := lv_sub hl [0, 1, 2] rfl
    exact mb_X7_gives_22 C0 x1 x2 S _ _ ls h hw hl
  · have h := h.2 c8
    refine lv_aload_n hx hb dX7_gives_11 rfl (lv_at hl 0 rfl) ?_
    refine gf_X7_acts C0 hw dX7_gives_12 ?_
    refine lv_iload_n hx hb dX7_gives_15 rfl (lv_at hl 1 rfl) ?_
    refine ld_M_acts C0 hw h.1 dX7_gives_16 ?_
    have h := h.2
    refine lv_bipush (v := 8) hx hb dX7_gives_17 (by decide) ?_
    refine lv_icmp_ne (tgt := 38) hx hb dX7_gives_19 (by decide) (fun c19 => ?_) (fun c19 => ?_)
    · have h := h.1 c19
      refine lv_aload_n hx hb dX7_gives_38 rfl (lv_at hl 0 rfl) ?_
      refine gf_X7_acts C0 hw dX7_gives_39 ?_
      refine lv_iload_n hx hb dX7_gives_42 rfl (lv_at hl 1 rfl) ?_
      refine ld_M_acts C0 hw h.1 dX7_gives_43 ?_
      have h := h.2
      refine lv_iconst (v := 3) hx hb dX7_gives_44 (by decide) ?_
      refine lv_icmp_ne (tgt := 85) hx hb dX7_gives_45 (by decide) (fun c45 => ?_) (fun c45 => ?_)
      · have h := h.1 c45
        refine lv_iconst (v := 0) hx hb dX7_gives_85 (by decide) ?_
        exact rtZ C0 hw rfl h dX7_gives_86
      · have h := h.2 c45
        refine lv_aload_n hx hb dX7_gives_48 rfl (lv_at hl 0 rfl) ?_
        refine gf_X7_of C0 hw dX7_gives_49 ?_
        refine lv_iload_n hx hb dX7_gives_52 rfl (lv_at hl 1 rfl) ?_
        refine ld_M_of C0 hw h.1 dX7_gives_53 ?_
        have h := h.2
        refine lv_iload_n hx hb dX7_gives_54 rfl (lv_at hl 2 rfl) ?_
        refine lv_icmp_ne (tgt := 85) hx hb dX7_gives_55 (by decide) (fun c55 => ?_) (fun c55 => ?_)
        · have h := h.1 c55
          refine lv_iconst (v := 0) hx hb dX7_gives_85 (by decide) ?_
          exact rtZ C0 hw rfl h dX7_gives_86
        · have h := h.2 c55
          refine lv_aload_n hx hb dX7_gives_58 rfl (lv_at hl 0 rfl) ?_
          refine lv_iload_n hx hb dX7_gives_59 rfl (lv_at hl 2 rfl) ?_
          refine lv_aload_n hx hb dX7_gives_60 rfl (lv_at hl 0 rfl) ?_
          refine gf_X7_path C0 hw dX7_gives_61 ?_
          refine lv_iload_n hx hb dX7_gives_64 rfl (lv_at hl 1 rfl) ?_
          refine ld_M_path C0 hw h.1 dX7_gives_65 ?_
          have h := h.2
          refine clVI (As := [.int x2, .int (gM_path S (x1).toNatClampNeg)]) (rest := []) (ci := 6) (k := 0) C0 (m_X7_isWithin l D ad cI cJ cZ S x2 (gM_path S (x1).toNatClampNeg) _ h) cal_X7_isWithin kw_310 kw_309 kw_308 rfl rfl rfl rfl hl.1 rfl (Nat.le_of_ble_eq_true rfl) ⟨Nat.le_of_ble_eq_true rfl, Nat.le_of_ble_eq_true rfl⟩ rfl rfl dX7_gives_66 hw (fun r66 S66 H locs h hw => ?_)
          replace h := h
          refine lv_if_ne (tgt := 85) hx hb dX7_gives_69 (by decide) (fun c69 => ?_) (fun c69 => ?_)
          · have h := h.1 c69
            refine lv_iconst (v := 0) hx hb dX7_gives_85 (by decide) ?_
            exact rtZ C0 hw rfl h dX7_gives_86
          · have h := h.2 c69
            refine lv_aload_n hx hb dX7_gives_72 rfl (lv_at hl 0 rfl) ?_
            refine lv_iload_n hx hb dX7_gives_73 rfl (lv_at hl 1 rfl) ?_
            refine lv_iload_n hx hb dX7_gives_74 rfl (lv_at hl 3 rfl) ?_
            refine clVI (As := [.int x1, .int x3]) (rest := []) (ci := 6) (k := 0) C0 (m_X7_isLeafOf l D ad cI cJ cZ S66 x1 x3 _ h) cal_X7_isLeafOf kw_331 kw_330 kw_329 rfl rfl rfl rfl hl.1 rfl (Nat.le_of_ble_eq_true rfl) ⟨Nat.le_of_ble_eq_true rfl, Nat.le_of_ble_eq_true rfl⟩ rfl rfl dX7_gives_75 hw (fun r75 S75 H locs h hw => ?_)
            replace h := h
            refine lv_if_eq (tgt := 85) hx hb dX7_gives_78 (by decide) (fun c78 => ?_) (fun c78 => ?_)
            · have h := h.1 c78
              refine lv_iconst (v := 0) hx hb dX7_gives_85 (by decide) ?_
              exact rtZ C0 hw rfl h dX7_gives_86
            · have h := h.2 c78
              refine lv_iconst (v := 1) hx hb dX7_gives_81 (by decide) ?_
              refine lv_goto (tgt := 86) hx hb dX7_gives_82 (by decide) ?_
              exact rtZ C0 hw rfl h dX7_gives_86
    · have h := h.2 c19
      replace hl := lv_sub hl [0, 1, 2] rfl
      exact mb_X7_gives_22 C0 x1 x2 S _ _ ls h hw hl
abbrev rm_X7_takes : Room := { frames := 1, cells := 0, slots := 0, locals := 22 }
set_option maxHeartbeats 4000000 in
set_option maxRecDepth 100000 in
theorem mb_X7_takes_31 {p : Program} {l : Launch} {e : Env} {s : State} {m : MethodId} {args : Array Value} {below : List Frame} {meth : Method} {c : Code} {D : va_G} {ad : Nat → Nat} {cI cJ cZ : ClassId} {A : Nat → Prop} {post : Int32 → MS → Prop} (C0 : Cx p s m args meth c cX7_takes 4 RX7 (some .boolean) D cI cJ cZ A) :
 ∀ (x1 : Int32) (x2 : Int32) (S : MS) (H : Heap) (locs : List Loc) (ls : Array Slot), wp_X7_takes_31 post x1 x2 S → Wd (WM ad cI cJ cZ) D A s.heap H locs S → lv_has ls 4 [(0, .ref (ad 0)), (1, .int x1), (2, .int x2)] → W p l e rm_X7_takes s m args below meth c H locs 0 0 (QI (WM ad cI cJ cZ) D A s args below post) (F0 m 31 ls []) := by
  have hx := C0.1
  have hb := C0.2.1
  intro x1 x2 S H locs ls h hw hl
  unfold wp_X7_takes_31 at h
  refine lv_aload_n hx hb dX7_takes_31 rfl (lv_at hl 0 rfl) ?_
  refine gf_X7_acts C0 hw dX7_takes_32 ?_
  refine lv_iload_n hx hb dX7_takes_35 rfl (lv_at hl 1 rfl) ?_
  refine ld_M_acts C0 hw h.1 dX7_takes_36 ?_
  have h := h.2
  refine lv_iconst (v := 5) hx hb dX7_takes_37 (by decide) ?_
  refine lv_icmp_eq (tgt := 62) hx hb dX7_takes_38 (by decide) (fun c38 => ?_) (fun c38 => ?_)
  · have h := h.1 c38
    refine lv_iconst (v := 1) hx hb dX7_takes_62 (by decide) ?_
    refine lv_goto (tgt := 67) hx hb dX7_takes_63 (by decide) ?_
    exact rtZ C0 hw rfl h dX7_takes_67
  · have h := h.2 c38
    refine lv_aload_n hx hb dX7_takes_41 rfl (lv_at hl 0 rfl) ?_
    refine gf_X7_acts C0 hw dX7_takes_42 ?_
    refine lv_iload_n hx hb dX7_takes_45 rfl (lv_at hl 1 rfl) ?_
    refine ld_M_acts C0 hw h.1 dX7_takes_46 ?_
    have h := h.2
    refine lv_bipush (v := 8) hx hb dX7_takes_47 (by decide) ?_
    refine lv_icmp_ne (tgt := 66) hx hb dX7_takes_49 (by decide) (fun c49 => ?_) (fun c49 => ?_)
    · have h := h.1 c49
      refine lv_iconst (v := 0) hx hb dX7_takes_66 (by decide) ?_
      exact rtZ C0 hw rfl h dX7_takes_67
    · have h := h.2 c49
      refine lv_aload_n hx hb dX7_takes_52 rfl (lv_at hl 0 rfl) ?_
      refine gf_X7_sort C0 hw dX7_takes_53 ?_
      refine lv_iload_n hx hb dX7_takes_56 rfl (lv_at hl 2 rfl) ?_
      refine ld_M_sort C0 hw h.1 dX7_takes_57 ?_
      have h := h.2
      refine lv_iconst (v := 2) hx hb dX7_takes_58 (by decide) ?_
      refine lv_icmp_ne (tgt := 66) hx hb dX7_takes_59 (by decide) (fun c59 => ?_) (fun c59 => ?_)
      · have h := h.1 c59
        refine lv_iconst (v := 0) hx hb dX7_takes_66 (by decide) ?_
        exact rtZ C0 hw rfl h dX7_takes_67
      · have h := h.2 c59
        refine lv_iconst (v := 1) hx hb dX7_takes_62 (by decide) ?_
        refine lv_goto (tgt := 67) hx hb dX7_takes_63 (by decide) ?_
        exact rtZ C0 hw rfl h dX7_takes_67
set_option maxHeartbeats 4000000 in
set_option maxRecDepth 100000 in
theorem m_X7_takes (l : Launch) (D : va_G) (ad : Nat → Nat) (cI cJ cZ : ClassId) (S : MS) (x1 : Int32) (x2 : Int32) (x3 : Int32) (post : Int32 → MS → Prop) (h : wp_X7_takes S x1 x2 x3 post) : CI (WM ad cI cJ cZ) D cI cJ cZ l yX7_takes (.code yX7_takes cX7_takes 4 (some .boolean) :: gt) rm_X7_takes S [.ref (ad 0), .int x1, .int x2, .int x3] post := by
  refine enI (by decide) (Nat.le_of_ble_eq_true rfl) ?_
  intro p e s m below meth c A ls C0 hw hl
  have C0 : Cx p s m _ meth c cX7_takes 4 RX7 (some .boolean) D cI cJ cZ A := C0
  have hl : lv_has ls 4 [(0, .ref (ad 0)), (1, .int x1), (2, .int x2), (3, .int x3)] := hl
  have hx := C0.1
  have hb := C0.2.1
  unfold wp_X7_takes at h
  refine lv_aload_n hx hb dX7_takes_0 rfl (lv_at hl 0 rfl) ?_
  refine gf_X7_of C0 hw dX7_takes_1 ?_
  refine lv_iload_n hx hb dX7_takes_4 rfl (lv_at hl 1 rfl) ?_
  refine ld_M_of C0 hw h.1 dX7_takes_5 ?_
  have h := h.2
  refine lv_iload_n hx hb dX7_takes_6 rfl (lv_at hl 2 rfl) ?_
  refine lv_icmp_eq (tgt := 12) hx hb dX7_takes_7 (by decide) (fun c7 => ?_) (fun c7 => ?_)
  · have h := h.1 c7
    refine lv_aload_n hx hb dX7_takes_12 rfl (lv_at hl 0 rfl) ?_
    refine gf_X7_acts C0 hw dX7_takes_13 ?_
    refine lv_iload_n hx hb dX7_takes_16 rfl (lv_at hl 1 rfl) ?_
    refine ld_M_acts C0 hw h.1 dX7_takes_17 ?_
    have h := h.2
    refine lv_iconst (v := 2) hx hb dX7_takes_18 (by decide) ?_
    refine lv_icmp_ne (tgt := 31) hx hb dX7_takes_19 (by decide) (fun c19 => ?_) (fun c19 => ?_)
    · have h := h.1 c19
      replace hl := lv_sub hl [0, 1, 2] rfl
      exact mb_X7_takes_31 C0 x1 x2 S _ _ ls h hw hl
    · have h := h.2 c19
      refine lv_aload_n hx hb dX7_takes_22 rfl (lv_at hl 0 rfl) ?_
      refine lv_iload_n hx hb dX7_takes_23 rfl (lv_at hl 1 rfl) ?_
      refine lv_iload_n hx hb dX7_takes_24 rfl (lv_at hl 3 rfl) ?_
      refine clVI (As := [.int x1, .int x3]) (rest := []) (ci := 6) (k := 0) C0 (m_X7_isLeafOf l D ad cI cJ cZ S x1 x3 _ h) cal_X7_isLeafOf kw_331 kw_330 kw_329 rfl rfl rfl rfl hl.1 rfl (Nat.le_of_ble_eq_true rfl) ⟨Nat.le_of_ble_eq_true rfl, Nat.le_of_ble_eq_true rfl⟩ rfl rfl dX7_takes_25 hw (fun r25 S25 H locs h hw => ?_)
      replace h := h
      refine lv_if_ne (tgt := 62) hx hb dX7_takes_28 (by decide) (fun c28 => ?_) (fun c28 => ?_)
      · have h := h.1 c28
        refine lv_iconst (v := 1) hx hb dX7_takes_62 (by decide) ?_
        refine lv_goto (tgt := 67) hx hb dX7_takes_63 (by decide) ?_
        exact rtZ C0 hw rfl h dX7_takes_67
      · have h := h.2 c28
        replace hl := lv_sub hl [0, 1, 2] rfl
        exact mb_X7_takes_31 C0 x1 x2 S25 _ _ ls h hw hl
  · have h := h.2 c7
    refine lv_iconst (v := 0) hx hb dX7_takes_10 (by decide) ?_
    exact rtZ C0 hw rfl h dX7_takes_11
abbrev rm_X7_walkLeaf_lost : Room := { frames := 2, cells := 0, slots := 0, locals := 45 }
set_option maxHeartbeats 4000000 in
set_option maxRecDepth 100000 in
theorem mb_X7_walkLeaf_lost_180 {p : Program} {l : Launch} {e : Env} {s : State} {m : MethodId} {args : Array Value} {below : List Frame} {meth : Method} {c : Code} {D : va_G} {ad : Nat → Nat} {cI cJ cZ : ClassId} {A : Nat → Prop} {post : MS → Prop} (C0 : Cx p s m args meth c cX7_walkLeaf 8 RX7 none D cI cJ cZ A) (K63 : Int32 → Int32 → Int32 → Int32 → Int32 → MS → Prop) (hK63 : ∀ (x1 : Int32) (x2 : Int32) (x3 : Int32) (x5 : Int32) (x6 : Int32) (S : MS) (H : Heap) (locs : List Loc) (ls : Array Slot), K63 x1 x2 x3 x5 x6 S → Wd (WM ad cI cJ cZ) D A s.heap H locs S → lv_has ls 8 [(0, .ref (ad 0)), (1, .int x1), (2, .int x2), (3, .int x3), (4, .ref (ad 10)), (5, .int x5), (6, .int x6)] → W p l e rm_X7_walkLeaf_lost s m args below meth c H locs 0 0 (QV (WM ad cI cJ cZ) D A s args below post) (F0 m 63 ls [])) :
 ∀ (x1 : Int32) (x2 : Int32) (x3 : Int32) (x5 : Int32) (x6 : Int32) (S : MS) (H : Heap) (locs : List Loc) (ls : Array Slot), wp_X7_walkLeaf_lost_180 K63 post x1 x2 x3 x5 x6 S → Wd (WM ad cI cJ cZ) D A s.heap H locs S → lv_has ls 8 [(0, .ref (ad 0)), (1, .int x1), (2, .int x2), (3, .int x3), (4, .ref (ad 10)), (5, .int x5), (6, .int x6)] → W p l e rm_X7_walkLeaf_lost s m args below meth c H locs 0 0 (QV (WM ad cI cJ cZ) D A s args below post) (F0 m 180 ls []) := by
  have hx := C0.1
  have hb := C0.2.1
  intro x1 x2 x3 x5 x6 S H locs ls h hw hl
  unfold wp_X7_walkLeaf_lost_180 at h
  obtain ⟨x6_1, ex6_1⟩ : ∃ y : Int32, y = x6 + (1 : Int32) := ⟨_, rfl⟩
  refine lv_iinc (v := x6_1) (lv' := [(6, .int x6_1), (0, .ref (ad 0)), (1, .int x1), (2, .int x2), (3, .int x3), (4, .ref (ad 10)), (5, .int x5)]) hx hb dX7_walkLeaf_180 hl (k := 6) rfl (by rw [ex6_1]; rfl) (by decide) rfl (fun ls hl => ?_)
  have h := h x6_1 ex6_1
  refine lv_goto (tgt := 63) hx hb dX7_walkLeaf_183 (by decide) ?_
  replace hl := lv_sub hl [1, 2, 3, 4, 5, 6, 0] rfl
  exact hK63 x1 x2 x3 x5 x6_1 S _ _ _ h hw hl
set_option maxHeartbeats 4000000 in
set_option maxRecDepth 100000 in
theorem mb_X7_walkLeaf_lost_174 {p : Program} {l : Launch} {e : Env} {s : State} {m : MethodId} {args : Array Value} {below : List Frame} {meth : Method} {c : Code} {D : va_G} {ad : Nat → Nat} {cI cJ cZ : ClassId} {A : Nat → Prop} {post : MS → Prop} (C0 : Cx p s m args meth c cX7_walkLeaf 8 RX7 none D cI cJ cZ A) (K116 : Int32 → Int32 → Int32 → Int32 → Int32 → Int32 → MS → Prop) (hK116 : ∀ (x1 : Int32) (x2 : Int32) (x3 : Int32) (x5 : Int32) (x6 : Int32) (x7 : Int32) (S : MS) (H : Heap) (locs : List Loc) (ls : Array Slot), K116 x1 x2 x3 x5 x6 x7 S → Wd (WM ad cI cJ cZ) D A s.heap H locs S → lv_has ls 8 [(0, .ref (ad 0)), (1, .int x1), (2, .int x2), (3, .int x3), (4, .ref (ad 10)), (5, .int x5), (6, .int x6), (7, .int x7)] → W p l e rm_X7_walkLeaf_lost s m args below meth c H locs 0 0 (QV (WM ad cI cJ cZ) D A s args below post) (F0 m 116 ls [])) :
 ∀ (x1 : Int32) (x2 : Int32) (x3 : Int32) (x5 : Int32) (x6 : Int32) (x7 : Int32) (S : MS) (H : Heap) (locs : List Loc) (ls : Array Slot), wp_X7_walkLeaf_lost_174 K116 post x1 x2 x3 x5 x6 x7 S → Wd (WM ad cI cJ cZ) D A s.heap H locs S → lv_has ls 8 [(0, .ref (ad 0)), (1, .int x1), (2, .int x2), (3, .int x3), (4, .ref (ad 10)), (5, .int x5), (6, .int x6), (7, .int x7)] → W p l e rm_X7_walkLeaf_lost s m args below meth c H locs 0 0 (QV (WM ad cI cJ cZ) D A s args below post) (F0 m 174 ls []) := by
  have hx := C0.1
  have hb := C0.2.1
  intro x1 x2 x3 x5 x6 x7 S H locs ls h hw hl
  unfold wp_X7_walkLeaf_lost_174 at h
  obtain ⟨x7_1, ex7_1⟩ : ∃ y : Int32, y = x7 + (1 : Int32) := ⟨_, rfl⟩
  refine lv_iinc (v := x7_1) (lv' := [(7, .int x7_1), (0, .ref (ad 0)), (1, .int x1), (2, .int x2), (3, .int x3), (4, .ref (ad 10)), (5, .int x5), (6, .int x6)]) hx hb dX7_walkLeaf_174 hl (k := 7) rfl (by rw [ex7_1]; rfl) (by decide) rfl (fun ls hl => ?_)
  have h := h x7_1 ex7_1
  refine lv_goto (tgt := 116) hx hb dX7_walkLeaf_177 (by decide) ?_
  replace hl := lv_sub hl [1, 2, 3, 4, 5, 6, 7, 0] rfl
  exact hK116 x1 x2 x3 x5 x6 x7_1 S _ _ _ h hw hl
set_option maxHeartbeats 4000000 in
set_option maxRecDepth 100000 in
theorem mb_X7_walkLeaf_lost_116 {p : Program} {l : Launch} {e : Env} {s : State} {m : MethodId} {args : Array Value} {below : List Frame} {meth : Method} {c : Code} {D : va_G} {ad : Nat → Nat} {cI cJ cZ : ClassId} {A : Nat → Prop} {post : MS → Prop} (C0 : Cx p s m args meth c cX7_walkLeaf 8 RX7 none D cI cJ cZ A) (K180 : Int32 → Int32 → Int32 → Int32 → Int32 → MS → Prop) (hK180 : ∀ (x1 : Int32) (x2 : Int32) (x3 : Int32) (x5 : Int32) (x6 : Int32) (S : MS) (H : Heap) (locs : List Loc) (ls : Array Slot), K180 x1 x2 x3 x5 x6 S → Wd (WM ad cI cJ cZ) D A s.heap H locs S → lv_has ls 8 [(0, .ref (ad 0)), (1, .int x1), (2, .int x2), (3, .int x3), (4, .ref (ad 10)), (5, .int x5), (6, .int x6)] → W p l e rm_X7_walkLeaf_lost s m args below meth c H locs 0 0 (QV (WM ad cI cJ cZ) D A s args below post) (F0 m 180 ls [])) :
 ∀ (n : Nat) (x1 : Int32) (x2 : Int32) (x3 : Int32) (x5 : Int32) (x6 : Int32) (x7 : Int32) (S : MS) (H : Heap) (locs : List Loc) (ls : Array Slot), wp_X7_walkLeaf_lost_116 K180 post n x1 x2 x3 x5 x6 x7 S → Wd (WM ad cI cJ cZ) D A s.heap H locs S → lv_has ls 8 [(0, .ref (ad 0)), (1, .int x1), (2, .int x2), (3, .int x3), (4, .ref (ad 10)), (5, .int x5), (6, .int x6), (7, .int x7)] → W p l e rm_X7_walkLeaf_lost s m args below meth c H locs 0 0 (QV (WM ad cI cJ cZ) D A s args below post) (F0 m 116 ls []) := by
  have hx := C0.1
  have hb := C0.2.1
  intro n
  induction n with
  | zero => intro x1 x2 x3 x5 x6 x7 S H locs ls h; exact h.elim
  | succ n ih =>
    intro x1 x2 x3 x5 x6 x7 S H locs ls h hw hl
    replace h : ws_X7_walkLeaf_lost_116 (wp_X7_walkLeaf_lost_116 K180 post n) K180 post x1 x2 x3 x5 x6 x7 S := h
    unfold ws_X7_walkLeaf_lost_116 at h
    refine lv_iload hx hb dX7_walkLeaf_116 (lv_at hl 7 rfl) ?_
    refine lv_iconst (v := 4) hx hb dX7_walkLeaf_118 (by decide) ?_
    refine lv_icmp_ge (tgt := 180) hx hb dX7_walkLeaf_119 (by decide) (fun c119 => ?_) (fun c119 => ?_)
    · have h := h.1 c119
      replace hl := lv_sub hl [0, 1, 2, 3, 4, 5, 6] rfl
      exact hK180 x1 x2 x3 x5 x6 S _ _ _ h hw hl
    · have h := h.2 c119
      refine lv_aload_n hx hb dX7_walkLeaf_122 rfl (lv_at hl 0 rfl) ?_
      refine gf_X7_nexts C0 hw dX7_walkLeaf_123 ?_
      refine lv_iconst (v := 4) hx hb dX7_walkLeaf_126 (by decide) ?_
      refine lv_iload hx hb dX7_walkLeaf_127 (lv_at hl 6 rfl) ?_
      refine lv_imul hx hb dX7_walkLeaf_129 ?_
      refine lv_iload hx hb dX7_walkLeaf_130 (lv_at hl 7 rfl) ?_
      refine lv_iadd hx hb dX7_walkLeaf_132 ?_
      refine ld_M_nexts C0 hw h.1 dX7_walkLeaf_133 ?_
      have h := h.2
      refine lv_iconst (v := -1) hx hb dX7_walkLeaf_134 (by decide) ?_
      refine lv_icmp_eq (tgt := 174) hx hb dX7_walkLeaf_135 (by decide) (fun c135 => ?_) (fun c135 => ?_)
      · have h := h.1 c135
        replace hl := lv_sub hl [0, 1, 2, 3, 4, 5, 6, 7] rfl
        exact mb_X7_walkLeaf_lost_174 C0 _ ih x1 x2 x3 x5 x6 x7 S _ _ ls h hw hl
      · have h := h.2 c135
        refine lv_aload_n hx hb dX7_walkLeaf_138 rfl (lv_at hl 0 rfl) ?_
        refine lv_aload hx hb dX7_walkLeaf_139 (lv_at hl 4 rfl) ?_
        refine lv_bipush (v := 64) hx hb dX7_walkLeaf_141 (by decide) ?_
        refine lv_aload_n hx hb dX7_walkLeaf_143 rfl (lv_at hl 0 rfl) ?_
        refine gf_X7_nexts C0 hw dX7_walkLeaf_144 ?_
        refine lv_iconst (v := 4) hx hb dX7_walkLeaf_147 (by decide) ?_
        refine lv_iload hx hb dX7_walkLeaf_148 (lv_at hl 6 rfl) ?_
        refine lv_imul hx hb dX7_walkLeaf_150 ?_
        refine lv_iload hx hb dX7_walkLeaf_151 (lv_at hl 7 rfl) ?_
        refine lv_iadd hx hb dX7_walkLeaf_153 ?_
        refine ld_M_nexts C0 hw h.1 dX7_walkLeaf_154 ?_
        have h := h.2
        refine lv_imul hx hb dX7_walkLeaf_155 ?_
        refine lv_iload hx hb dX7_walkLeaf_156 (lv_at hl 5 rfl) ?_
        refine lv_iadd hx hb dX7_walkLeaf_158 ?_
        refine lv_aload_n hx hb dX7_walkLeaf_159 rfl (lv_at hl 0 rfl) ?_
        refine gf_X7_nexts C0 hw dX7_walkLeaf_160 ?_
        refine lv_iconst (v := 4) hx hb dX7_walkLeaf_163 (by decide) ?_
        refine lv_iload hx hb dX7_walkLeaf_164 (lv_at hl 6 rfl) ?_
        refine lv_imul hx hb dX7_walkLeaf_166 ?_
        refine lv_iload hx hb dX7_walkLeaf_167 (lv_at hl 7 rfl) ?_
        refine lv_iadd hx hb dX7_walkLeaf_169 ?_
        refine ld_M_nexts C0 hw h.1 dX7_walkLeaf_170 ?_
        have h := h.2
        refine clVV (As := [.ref (ad 10), .int (((64 : Int32) * (gM_nexts S (((4 : Int32) * x6) + x7).toNatClampNeg)) + x5), .int (gM_nexts S (((4 : Int32) * x6) + x7).toNatClampNeg)]) (rest := []) (ci := 6) (k := 0) C0 (m_X7_come_lost l D ad cI cJ cZ S (((64 : Int32) * (gM_nexts S (((4 : Int32) * x6) + x7).toNatClampNeg)) + x5) (gM_nexts S (((4 : Int32) * x6) + x7).toNatClampNeg) _ h) cal_X7_come kw_328 kw_327 kw_326 rfl rfl rfl rfl hl.1 rfl (Nat.le_of_ble_eq_true rfl) ⟨Nat.le_of_ble_eq_true rfl, Nat.le_of_ble_eq_true rfl⟩ rfl rfl dX7_walkLeaf_171 hw (fun S171 H locs h hw => ?_)
        replace h := h
        replace hl := lv_sub hl [0, 1, 2, 3, 4, 5, 6, 7] rfl
        exact mb_X7_walkLeaf_lost_174 C0 _ ih x1 x2 x3 x5 x6 x7 S171 _ _ ls h hw hl
set_option maxHeartbeats 4000000 in
set_option maxRecDepth 100000 in
theorem mb_X7_walkLeaf_lost_113 {p : Program} {l : Launch} {e : Env} {s : State} {m : MethodId} {args : Array Value} {below : List Frame} {meth : Method} {c : Code} {D : va_G} {ad : Nat → Nat} {cI cJ cZ : ClassId} {A : Nat → Prop} {post : MS → Prop} (C0 : Cx p s m args meth c cX7_walkLeaf 8 RX7 none D cI cJ cZ A) (K180 : Int32 → Int32 → Int32 → Int32 → Int32 → MS → Prop) (hK180 : ∀ (x1 : Int32) (x2 : Int32) (x3 : Int32) (x5 : Int32) (x6 : Int32) (S : MS) (H : Heap) (locs : List Loc) (ls : Array Slot), K180 x1 x2 x3 x5 x6 S → Wd (WM ad cI cJ cZ) D A s.heap H locs S → lv_has ls 8 [(0, .ref (ad 0)), (1, .int x1), (2, .int x2), (3, .int x3), (4, .ref (ad 10)), (5, .int x5), (6, .int x6)] → W p l e rm_X7_walkLeaf_lost s m args below meth c H locs 0 0 (QV (WM ad cI cJ cZ) D A s args below post) (F0 m 180 ls [])) :
 ∀ (x1 : Int32) (x2 : Int32) (x3 : Int32) (x5 : Int32) (x6 : Int32) (S : MS) (H : Heap) (locs : List Loc) (ls : Array Slot), wp_X7_walkLeaf_lost_113 K180 post x1 x2 x3 x5 x6 S → Wd (WM ad cI cJ cZ) D A s.heap H locs S → lv_has ls 8 [(0, .ref (ad 0)), (1, .int x1), (2, .int x2), (3, .int x3), (4, .ref (ad 10)), (5, .int x5), (6, .int x6)] → W p l e rm_X7_walkLeaf_lost s m args below meth c H locs 0 0 (QV (WM ad cI cJ cZ) D A s args below post) (F0 m 113 ls []) := by
  have hx := C0.1
  have hb := C0.2.1
  intro x1 x2 x3 x5 x6 S H locs ls h hw hl
  unfold wp_X7_walkLeaf_lost_113 at h
  refine lv_iconst (v := 0) hx hb dX7_walkLeaf_113 (by decide) ?_
  refine lv_istore (lv' := [(7, .int (0 : Int32)), (0, .ref (ad 0)), (1, .int x1), (2, .int x2), (3, .int x3), (4, .ref (ad 10)), (5, .int x5), (6, .int x6)]) hx hb dX7_walkLeaf_114 hl (by decide) rfl (fun ls hl => ?_)
  replace hl := lv_sub hl [1, 2, 3, 4, 5, 6, 7, 0] rfl
  obtain ⟨n, h⟩ := h
  exact mb_X7_walkLeaf_lost_116 C0 _ hK180 n x1 x2 x3 x5 x6 (0 : Int32) S _ _ ls h hw hl
set_option maxHeartbeats 4000000 in
set_option maxRecDepth 100000 in
theorem mb_X7_walkLeaf_lost_307 {p : Program} {l : Launch} {e : Env} {s : State} {m : MethodId} {args : Array Value} {below : List Frame} {meth : Method} {c : Code} {D : va_G} {ad : Nat → Nat} {cI cJ cZ : ClassId} {A : Nat → Prop} {post : MS → Prop} (C0 : Cx p s m args meth c cX7_walkLeaf 8 RX7 none D cI cJ cZ A) (K249 : Int32 → Int32 → Int32 → Int32 → Int32 → Int32 → MS → Prop) (hK249 : ∀ (x1 : Int32) (x2 : Int32) (x3 : Int32) (x5 : Int32) (x6 : Int32) (x7 : Int32) (S : MS) (H : Heap) (locs : List Loc) (ls : Array Slot), K249 x1 x2 x3 x5 x6 x7 S → Wd (WM ad cI cJ cZ) D A s.heap H locs S → lv_has ls 8 [(0, .ref (ad 0)), (1, .int x1), (2, .int x2), (3, .int x3), (4, .ref (ad 10)), (5, .int x5), (6, .int x6), (7, .int x7)] → W p l e rm_X7_walkLeaf_lost s m args below meth c H locs 0 0 (QV (WM ad cI cJ cZ) D A s args below post) (F0 m 249 ls [])) :
 ∀ (x1 : Int32) (x2 : Int32) (x3 : Int32) (x5 : Int32) (x6 : Int32) (x7 : Int32) (S : MS) (H : Heap) (locs : List Loc) (ls : Array Slot), wp_X7_walkLeaf_lost_307 K249 post x1 x2 x3 x5 x6 x7 S → Wd (WM ad cI cJ cZ) D A s.heap H locs S → lv_has ls 8 [(0, .ref (ad 0)), (1, .int x1), (2, .int x2), (3, .int x3), (4, .ref (ad 10)), (5, .int x5), (6, .int x6), (7, .int x7)] → W p l e rm_X7_walkLeaf_lost s m args below meth c H locs 0 0 (QV (WM ad cI cJ cZ) D A s args below post) (F0 m 307 ls []) := by
  have hx := C0.1
  have hb := C0.2.1
  intro x1 x2 x3 x5 x6 x7 S H locs ls h hw hl
  unfold wp_X7_walkLeaf_lost_307 at h
  obtain ⟨x7_1, ex7_1⟩ : ∃ y : Int32, y = x7 + (1 : Int32) := ⟨_, rfl⟩
  refine lv_iinc (v := x7_1) (lv' := [(7, .int x7_1), (0, .ref (ad 0)), (1, .int x1), (2, .int x2), (3, .int x3), (4, .ref (ad 10)), (5, .int x5), (6, .int x6)]) hx hb dX7_walkLeaf_307 hl (k := 7) rfl (by rw [ex7_1]; rfl) (by decide) rfl (fun ls hl => ?_)
  have h := h x7_1 ex7_1
  refine lv_goto (tgt := 249) hx hb dX7_walkLeaf_310 (by decide) ?_
  replace hl := lv_sub hl [1, 2, 3, 4, 5, 6, 7, 0] rfl
  exact hK249 x1 x2 x3 x5 x6 x7_1 S _ _ _ h hw hl
set_option maxHeartbeats 4000000 in
set_option maxRecDepth 100000 in
theorem mb_X7_walkLeaf_lost_249 {p : Program} {l : Launch} {e : Env} {s : State} {m : MethodId} {args : Array Value} {below : List Frame} {meth : Method} {c : Code} {D : va_G} {ad : Nat → Nat} {cI cJ cZ : ClassId} {A : Nat → Prop} {post : MS → Prop} (C0 : Cx p s m args meth c cX7_walkLeaf 8 RX7 none D cI cJ cZ A) (K186 : Int32 → Int32 → Int32 → Int32 → MS → Prop) (hK186 : ∀ (x1 : Int32) (x2 : Int32) (x3 : Int32) (x5 : Int32) (S : MS) (H : Heap) (locs : List Loc) (ls : Array Slot), K186 x1 x2 x3 x5 S → Wd (WM ad cI cJ cZ) D A s.heap H locs S → lv_has ls 8 [(0, .ref (ad 0)), (1, .int x1), (2, .int x2), (3, .int x3), (4, .ref (ad 10)), (5, .int x5)] → W p l e rm_X7_walkLeaf_lost s m args below meth c H locs 0 0 (QV (WM ad cI cJ cZ) D A s args below post) (F0 m 186 ls [])) :
 ∀ (n : Nat) (x1 : Int32) (x2 : Int32) (x3 : Int32) (x5 : Int32) (x6 : Int32) (x7 : Int32) (S : MS) (H : Heap) (locs : List Loc) (ls : Array Slot), wp_X7_walkLeaf_lost_249 K186 post n x1 x2 x3 x5 x6 x7 S → Wd (WM ad cI cJ cZ) D A s.heap H locs S → lv_has ls 8 [(0, .ref (ad 0)), (1, .int x1), (2, .int x2), (3, .int x3), (4, .ref (ad 10)), (5, .int x5), (6, .int x6), (7, .int x7)] → W p l e rm_X7_walkLeaf_lost s m args below meth c H locs 0 0 (QV (WM ad cI cJ cZ) D A s args below post) (F0 m 249 ls []) := by
  have hx := C0.1
  have hb := C0.2.1
  intro n
  induction n with
  | zero => intro x1 x2 x3 x5 x6 x7 S H locs ls h; exact h.elim
  | succ n ih =>
    intro x1 x2 x3 x5 x6 x7 S H locs ls h hw hl
    replace h : ws_X7_walkLeaf_lost_249 (wp_X7_walkLeaf_lost_249 K186 post n) K186 post x1 x2 x3 x5 x6 x7 S := h
    unfold ws_X7_walkLeaf_lost_249 at h
    refine lv_iload hx hb dX7_walkLeaf_249 (lv_at hl 7 rfl) ?_
    refine lv_iconst (v := 4) hx hb dX7_walkLeaf_251 (by decide) ?_
    refine lv_icmp_ge (tgt := 313) hx hb dX7_walkLeaf_252 (by decide) (fun c252 => ?_) (fun c252 => ?_)
    · have h := h.1 c252
      refine lv_goto (tgt := 186) hx hb dX7_walkLeaf_313 (by decide) ?_
      replace hl := lv_sub hl [0, 1, 2, 3, 4, 5] rfl
      exact hK186 x1 x2 x3 x5 S _ _ _ h hw hl
    · have h := h.2 c252
      refine lv_aload_n hx hb dX7_walkLeaf_255 rfl (lv_at hl 0 rfl) ?_
      refine gf_X7_nexts C0 hw dX7_walkLeaf_256 ?_
      refine lv_iconst (v := 4) hx hb dX7_walkLeaf_259 (by decide) ?_
      refine lv_iload hx hb dX7_walkLeaf_260 (lv_at hl 6 rfl) ?_
      refine lv_imul hx hb dX7_walkLeaf_262 ?_
      refine lv_iload hx hb dX7_walkLeaf_263 (lv_at hl 7 rfl) ?_
      refine lv_iadd hx hb dX7_walkLeaf_265 ?_
      refine ld_M_nexts C0 hw h.1 dX7_walkLeaf_266 ?_
      have h := h.2
      refine lv_iconst (v := -1) hx hb dX7_walkLeaf_267 (by decide) ?_
      refine lv_icmp_eq (tgt := 307) hx hb dX7_walkLeaf_268 (by decide) (fun c268 => ?_) (fun c268 => ?_)
      · have h := h.1 c268
        replace hl := lv_sub hl [0, 1, 2, 3, 4, 5, 6, 7] rfl
        exact mb_X7_walkLeaf_lost_307 C0 _ ih x1 x2 x3 x5 x6 x7 S _ _ ls h hw hl
      · have h := h.2 c268
        refine lv_aload_n hx hb dX7_walkLeaf_271 rfl (lv_at hl 0 rfl) ?_
        refine lv_aload hx hb dX7_walkLeaf_272 (lv_at hl 4 rfl) ?_
        refine lv_bipush (v := 64) hx hb dX7_walkLeaf_274 (by decide) ?_
        refine lv_aload_n hx hb dX7_walkLeaf_276 rfl (lv_at hl 0 rfl) ?_
        refine gf_X7_nexts C0 hw dX7_walkLeaf_277 ?_
        refine lv_iconst (v := 4) hx hb dX7_walkLeaf_280 (by decide) ?_
        refine lv_iload hx hb dX7_walkLeaf_281 (lv_at hl 6 rfl) ?_
        refine lv_imul hx hb dX7_walkLeaf_283 ?_
        refine lv_iload hx hb dX7_walkLeaf_284 (lv_at hl 7 rfl) ?_
        refine lv_iadd hx hb dX7_walkLeaf_286 ?_
        refine ld_M_nexts C0 hw h.1 dX7_walkLeaf_287 ?_
        have h := h.2
        refine lv_imul hx hb dX7_walkLeaf_288 ?_
        refine lv_iload hx hb dX7_walkLeaf_289 (lv_at hl 5 rfl) ?_
        refine lv_iadd hx hb dX7_walkLeaf_291 ?_
        refine lv_aload_n hx hb dX7_walkLeaf_292 rfl (lv_at hl 0 rfl) ?_
        refine gf_X7_nexts C0 hw dX7_walkLeaf_293 ?_
        refine lv_iconst (v := 4) hx hb dX7_walkLeaf_296 (by decide) ?_
        refine lv_iload hx hb dX7_walkLeaf_297 (lv_at hl 6 rfl) ?_
        refine lv_imul hx hb dX7_walkLeaf_299 ?_
        refine lv_iload hx hb dX7_walkLeaf_300 (lv_at hl 7 rfl) ?_
        refine lv_iadd hx hb dX7_walkLeaf_302 ?_
        refine ld_M_nexts C0 hw h.1 dX7_walkLeaf_303 ?_
        have h := h.2
        refine clVV (As := [.ref (ad 10), .int (((64 : Int32) * (gM_nexts S (((4 : Int32) * x6) + x7).toNatClampNeg)) + x5), .int (gM_nexts S (((4 : Int32) * x6) + x7).toNatClampNeg)]) (rest := []) (ci := 6) (k := 0) C0 (m_X7_come_lost l D ad cI cJ cZ S (((64 : Int32) * (gM_nexts S (((4 : Int32) * x6) + x7).toNatClampNeg)) + x5) (gM_nexts S (((4 : Int32) * x6) + x7).toNatClampNeg) _ h) cal_X7_come kw_328 kw_327 kw_326 rfl rfl rfl rfl hl.1 rfl (Nat.le_of_ble_eq_true rfl) ⟨Nat.le_of_ble_eq_true rfl, Nat.le_of_ble_eq_true rfl⟩ rfl rfl dX7_walkLeaf_304 hw (fun S304 H locs h hw => ?_)
        replace h := h
        replace hl := lv_sub hl [0, 1, 2, 3, 4, 5, 6, 7] rfl
        exact mb_X7_walkLeaf_lost_307 C0 _ ih x1 x2 x3 x5 x6 x7 S304 _ _ ls h hw hl
set_option maxHeartbeats 4000000 in
set_option maxRecDepth 100000 in
theorem mb_X7_walkLeaf_lost_246 {p : Program} {l : Launch} {e : Env} {s : State} {m : MethodId} {args : Array Value} {below : List Frame} {meth : Method} {c : Code} {D : va_G} {ad : Nat → Nat} {cI cJ cZ : ClassId} {A : Nat → Prop} {post : MS → Prop} (C0 : Cx p s m args meth c cX7_walkLeaf 8 RX7 none D cI cJ cZ A) (K186 : Int32 → Int32 → Int32 → Int32 → MS → Prop) (hK186 : ∀ (x1 : Int32) (x2 : Int32) (x3 : Int32) (x5 : Int32) (S : MS) (H : Heap) (locs : List Loc) (ls : Array Slot), K186 x1 x2 x3 x5 S → Wd (WM ad cI cJ cZ) D A s.heap H locs S → lv_has ls 8 [(0, .ref (ad 0)), (1, .int x1), (2, .int x2), (3, .int x3), (4, .ref (ad 10)), (5, .int x5)] → W p l e rm_X7_walkLeaf_lost s m args below meth c H locs 0 0 (QV (WM ad cI cJ cZ) D A s args below post) (F0 m 186 ls [])) :
 ∀ (x1 : Int32) (x2 : Int32) (x3 : Int32) (x5 : Int32) (x6 : Int32) (S : MS) (H : Heap) (locs : List Loc) (ls : Array Slot), wp_X7_walkLeaf_lost_246 K186 post x1 x2 x3 x5 x6 S → Wd (WM ad cI cJ cZ) D A s.heap H locs S → lv_has ls 8 [(0, .ref (ad 0)), (1, .int x1), (2, .int x2), (3, .int x3), (4, .ref (ad 10)), (5, .int x5), (6, .int x6)] → W p l e rm_X7_walkLeaf_lost s m args below meth c H locs 0 0 (QV (WM ad cI cJ cZ) D A s args below post) (F0 m 246 ls []) := by
  have hx := C0.1
  have hb := C0.2.1
  intro x1 x2 x3 x5 x6 S H locs ls h hw hl
  unfold wp_X7_walkLeaf_lost_246 at h
  refine lv_iconst (v := 0) hx hb dX7_walkLeaf_246 (by decide) ?_
  refine lv_istore (lv' := [(7, .int (0 : Int32)), (0, .ref (ad 0)), (1, .int x1), (2, .int x2), (3, .int x3), (4, .ref (ad 10)), (5, .int x5), (6, .int x6)]) hx hb dX7_walkLeaf_247 hl (by decide) rfl (fun ls hl => ?_)
  replace hl := lv_sub hl [1, 2, 3, 4, 5, 6, 7, 0] rfl
  obtain ⟨n, h⟩ := h
  exact mb_X7_walkLeaf_lost_249 C0 _ hK186 n x1 x2 x3 x5 x6 (0 : Int32) S _ _ ls h hw hl
set_option maxHeartbeats 4000000 in
set_option maxRecDepth 100000 in
theorem mb_X7_walkLeaf_lost_186 {p : Program} {l : Launch} {e : Env} {s : State} {m : MethodId} {args : Array Value} {below : List Frame} {meth : Method} {c : Code} {D : va_G} {ad : Nat → Nat} {cI cJ cZ : ClassId} {A : Nat → Prop} {post : MS → Prop} (C0 : Cx p s m args meth c cX7_walkLeaf 8 RX7 none D cI cJ cZ A) :
 ∀ (n : Nat) (x1 : Int32) (x2 : Int32) (x3 : Int32) (x5 : Int32) (S : MS) (H : Heap) (locs : List Loc) (ls : Array Slot), wp_X7_walkLeaf_lost_186 post n x1 x2 x3 x5 S → Wd (WM ad cI cJ cZ) D A s.heap H locs S → lv_has ls 8 [(0, .ref (ad 0)), (1, .int x1), (2, .int x2), (3, .int x3), (4, .ref (ad 10)), (5, .int x5)] → W p l e rm_X7_walkLeaf_lost s m args below meth c H locs 0 0 (QV (WM ad cI cJ cZ) D A s args below post) (F0 m 186 ls []) := by
  have hx := C0.1
  have hb := C0.2.1
  intro n
  induction n with
  | zero => intro x1 x2 x3 x5 S H locs ls h; exact h.elim
  | succ n ih =>
    intro x1 x2 x3 x5 S H locs ls h hw hl
    replace h : ws_X7_walkLeaf_lost_186 (wp_X7_walkLeaf_lost_186  post n)  post x1 x2 x3 x5 S := h
    unfold ws_X7_walkLeaf_lost_186 at h
    refine lv_aload_n hx hb dX7_walkLeaf_186 rfl (lv_at hl 0 rfl) ?_
    refine gf_X7_piled C0 hw dX7_walkLeaf_187 ?_
    refine lv_if_le (tgt := 316) hx hb dX7_walkLeaf_190 (by decide) (fun c190 => ?_) (fun c190 => ?_)
    · have h := h.1 c190
      exact rtV C0 hw h dX7_walkLeaf_316
    · have h := h.2 c190
      refine lv_aload_n hx hb dX7_walkLeaf_193 rfl (lv_at hl 0 rfl) ?_
      refine lv_dup hx hb dX7_walkLeaf_194 rfl ?_
      refine gf_X7_piled C0 hw dX7_walkLeaf_195 ?_
      refine lv_iconst (v := 1) hx hb dX7_walkLeaf_198 (by decide) ?_
      refine lv_isub hx hb dX7_walkLeaf_199 ?_
      refine pf_X7_piled C0 hw dX7_walkLeaf_200 (fun H locs hw => ?_)
      obtain ⟨S_1, eS_1⟩ : ∃ z, z = sM_piled S ((gM_piled S) - (1 : Int32)) := ⟨_, rfl⟩
      rw [← eS_1] at hw
      have h := h S_1 eS_1
      refine lv_aload_n hx hb dX7_walkLeaf_203 rfl (lv_at hl 0 rfl) ?_
      refine gf_X7_pile C0 hw dX7_walkLeaf_204 ?_
      refine lv_aload_n hx hb dX7_walkLeaf_207 rfl (lv_at hl 0 rfl) ?_
      refine gf_X7_piled C0 hw dX7_walkLeaf_208 ?_
      refine ld_M_pile C0 hw h.1 dX7_walkLeaf_211 ?_
      have h := h.2
      refine lv_topi (fun x6_2 ex6_2 => ?_)
      have h := h x6_2 ex6_2
      refine lv_istore (lv' := [(6, .int x6_2), (0, .ref (ad 0)), (1, .int x1), (2, .int x2), (3, .int x3), (4, .ref (ad 10)), (5, .int x5)]) hx hb dX7_walkLeaf_212 hl (by decide) rfl (fun ls hl => ?_)
      refine lv_iload_n hx hb dX7_walkLeaf_214 rfl (lv_at hl 4 rfl) ?_
      refine lv_if_eq (tgt := 232) hx hb dX7_walkLeaf_215 (by decide) (fun c215 => ?_) (fun c215 => ?_)
      · have h := h.1 c215
        refine lv_aload_n hx hb dX7_walkLeaf_232 rfl (lv_at hl 1 rfl) ?_
        refine lv_iload hx hb dX7_walkLeaf_233 (lv_at hl 0 rfl) ?_
        refine lv_iload_n hx hb dX7_walkLeaf_235 rfl (lv_at hl 2 rfl) ?_
        refine lv_iload_n hx hb dX7_walkLeaf_236 rfl (lv_at hl 3 rfl) ?_
        refine clVI (As := [.int x6_2, .int x1, .int x2]) (rest := []) (ci := 6) (k := 0) C0 (m_X7_gives l D ad cI cJ cZ S_1 x6_2 x1 x2 _ h) cal_X7_gives kw_334 kw_333 kw_332 rfl rfl rfl rfl hl.1 rfl (Nat.le_of_ble_eq_true rfl) ⟨Nat.le_of_ble_eq_true rfl, Nat.le_of_ble_eq_true rfl⟩ rfl rfl dX7_walkLeaf_237 hw (fun r237 S237 H locs h hw => ?_)
        replace h := h
        refine lv_if_eq (tgt := 246) hx hb dX7_walkLeaf_240 (by decide) (fun c240 => ?_) (fun c240 => ?_)
        · have h := h.1 c240
          replace hl := lv_sub hl [1, 2, 3, 4, 5, 6, 0] rfl
          exact mb_X7_walkLeaf_lost_246 C0 _ ih x1 x2 x3 x5 x6_2 S237 _ _ ls h hw hl
        · have h := h.2 c240
          refine lv_goto (tgt := 186) hx hb dX7_walkLeaf_243 (by decide) ?_
          replace hl := lv_sub hl [1, 2, 3, 4, 5, 6] rfl
          exact ih x1 x2 x3 x5 S237 _ _ _ h hw hl
      · have h := h.2 c215
        refine lv_aload_n hx hb dX7_walkLeaf_218 rfl (lv_at hl 1 rfl) ?_
        refine lv_iload hx hb dX7_walkLeaf_219 (lv_at hl 0 rfl) ?_
        refine lv_iload_n hx hb dX7_walkLeaf_221 rfl (lv_at hl 2 rfl) ?_
        refine lv_iload_n hx hb dX7_walkLeaf_222 rfl (lv_at hl 3 rfl) ?_
        refine clVI (As := [.int x6_2, .int x1, .int x2]) (rest := []) (ci := 6) (k := 0) C0 (m_X7_takes l D ad cI cJ cZ S_1 x6_2 x1 x2 _ h) cal_X7_takes kw_337 kw_336 kw_335 rfl rfl rfl rfl hl.1 rfl (Nat.le_of_ble_eq_true rfl) ⟨Nat.le_of_ble_eq_true rfl, Nat.le_of_ble_eq_true rfl⟩ rfl rfl dX7_walkLeaf_223 hw (fun r223 S223 H locs h hw => ?_)
        replace h := h
        refine lv_if_eq (tgt := 246) hx hb dX7_walkLeaf_226 (by decide) (fun c226 => ?_) (fun c226 => ?_)
        · have h := h.1 c226
          replace hl := lv_sub hl [1, 2, 3, 4, 5, 6, 0] rfl
          exact mb_X7_walkLeaf_lost_246 C0 _ ih x1 x2 x3 x5 x6_2 S223 _ _ ls h hw hl
        · have h := h.2 c226
          refine lv_goto (tgt := 186) hx hb dX7_walkLeaf_229 (by decide) ?_
          replace hl := lv_sub hl [1, 2, 3, 4, 5, 6] rfl
          exact ih x1 x2 x3 x5 S223 _ _ _ h hw hl
set_option maxHeartbeats 4000000 in
set_option maxRecDepth 100000 in
theorem mb_X7_walkLeaf_lost_63 {p : Program} {l : Launch} {e : Env} {s : State} {m : MethodId} {args : Array Value} {below : List Frame} {meth : Method} {c : Code} {D : va_G} {ad : Nat → Nat} {cI cJ cZ : ClassId} {A : Nat → Prop} {post : MS → Prop} (C0 : Cx p s m args meth c cX7_walkLeaf 8 RX7 none D cI cJ cZ A) :
 ∀ (n : Nat) (x1 : Int32) (x2 : Int32) (x3 : Int32) (x5 : Int32) (x6 : Int32) (S : MS) (H : Heap) (locs : List Loc) (ls : Array Slot), wp_X7_walkLeaf_lost_63 post n x1 x2 x3 x5 x6 S → Wd (WM ad cI cJ cZ) D A s.heap H locs S → lv_has ls 8 [(0, .ref (ad 0)), (1, .int x1), (2, .int x2), (3, .int x3), (4, .ref (ad 10)), (5, .int x5), (6, .int x6)] → W p l e rm_X7_walkLeaf_lost s m args below meth c H locs 0 0 (QV (WM ad cI cJ cZ) D A s args below post) (F0 m 63 ls []) := by
  have hx := C0.1
  have hb := C0.2.1
  intro n
  induction n with
  | zero => intro x1 x2 x3 x5 x6 S H locs ls h; exact h.elim
  | succ n ih =>
    intro x1 x2 x3 x5 x6 S H locs ls h hw hl
    replace h : ws_X7_walkLeaf_lost_63 (wp_X7_walkLeaf_lost_63  post n)  post x1 x2 x3 x5 x6 S := h
    unfold ws_X7_walkLeaf_lost_63 at h
    refine lv_iload hx hb dX7_walkLeaf_63 (lv_at hl 6 rfl) ?_
    refine lv_sipush (v := 150) hx hb dX7_walkLeaf_65 (by decide) ?_
    refine lv_icmp_ge (tgt := 186) hx hb dX7_walkLeaf_68 (by decide) (fun c68 => ?_) (fun c68 => ?_)
    · have h := h.1 c68
      replace hl := lv_sub hl [0, 1, 2, 3, 4, 5] rfl
      obtain ⟨n, h⟩ := h
      exact mb_X7_walkLeaf_lost_186 C0 n x1 x2 x3 x5 S _ _ ls h hw hl
    · have h := h.2 c68
      refine lv_aload_n hx hb dX7_walkLeaf_71 rfl (lv_at hl 0 rfl) ?_
      refine gf_X7_come C0 hw dX7_walkLeaf_72 ?_
      refine lv_iload hx hb dX7_walkLeaf_75 (lv_at hl 6 rfl) ?_
      refine ld_M_come C0 hw h.1 dX7_walkLeaf_77 ?_
      have h := h.2
      refine lv_if_eq (tgt := 180) hx hb dX7_walkLeaf_78 (by decide) (fun c78 => ?_) (fun c78 => ?_)
      · have h := h.1 c78
        replace hl := lv_sub hl [0, 1, 2, 3, 4, 5, 6] rfl
        exact mb_X7_walkLeaf_lost_180 C0 _ ih x1 x2 x3 x5 x6 S _ _ ls h hw hl
      · have h := h.2 c78
        refine lv_iload_n hx hb dX7_walkLeaf_81 rfl (lv_at hl 3 rfl) ?_
        refine lv_if_eq (tgt := 99) hx hb dX7_walkLeaf_82 (by decide) (fun c82 => ?_) (fun c82 => ?_)
        · have h := h.1 c82
          refine lv_aload_n hx hb dX7_walkLeaf_99 rfl (lv_at hl 0 rfl) ?_
          refine lv_iload hx hb dX7_walkLeaf_100 (lv_at hl 6 rfl) ?_
          refine lv_iload_n hx hb dX7_walkLeaf_102 rfl (lv_at hl 1 rfl) ?_
          refine lv_iload_n hx hb dX7_walkLeaf_103 rfl (lv_at hl 2 rfl) ?_
          refine clVI (As := [.int x6, .int x1, .int x2]) (rest := []) (ci := 6) (k := 0) C0 (m_X7_takes l D ad cI cJ cZ S x6 x1 x2 _ h) cal_X7_takes kw_337 kw_336 kw_335 rfl rfl rfl rfl hl.1 rfl (Nat.le_of_ble_eq_true rfl) ⟨Nat.le_of_ble_eq_true rfl, Nat.le_of_ble_eq_true rfl⟩ rfl rfl dX7_walkLeaf_104 hw (fun r104 S104 H locs h hw => ?_)
          replace h := h
          refine lv_if_ne (tgt := 113) hx hb dX7_walkLeaf_107 (by decide) (fun c107 => ?_) (fun c107 => ?_)
          · have h := h.1 c107
            replace hl := lv_sub hl [0, 1, 2, 3, 4, 5, 6] rfl
            exact mb_X7_walkLeaf_lost_113 C0 _ (fun x1 x2 x3 x5 x6 S H locs ls h hw hl => mb_X7_walkLeaf_lost_180 C0 _ ih x1 x2 x3 x5 x6 S _ _ ls h hw hl) x1 x2 x3 x5 x6 S104 _ _ ls h hw hl
          · have h := h.2 c107
            refine lv_goto (tgt := 180) hx hb dX7_walkLeaf_110 (by decide) ?_
            replace hl := lv_sub hl [0, 1, 2, 3, 4, 5, 6] rfl
            exact mb_X7_walkLeaf_lost_180 C0 _ ih x1 x2 x3 x5 x6 S104 _ _ ls h hw hl
        · have h := h.2 c82
          refine lv_aload_n hx hb dX7_walkLeaf_85 rfl (lv_at hl 0 rfl) ?_
          refine lv_iload hx hb dX7_walkLeaf_86 (lv_at hl 6 rfl) ?_
          refine lv_iload_n hx hb dX7_walkLeaf_88 rfl (lv_at hl 1 rfl) ?_
          refine lv_iload_n hx hb dX7_walkLeaf_89 rfl (lv_at hl 2 rfl) ?_
          refine clVI (As := [.int x6, .int x1, .int x2]) (rest := []) (ci := 6) (k := 0) C0 (m_X7_gives l D ad cI cJ cZ S x6 x1 x2 _ h) cal_X7_gives kw_334 kw_333 kw_332 rfl rfl rfl rfl hl.1 rfl (Nat.le_of_ble_eq_true rfl) ⟨Nat.le_of_ble_eq_true rfl, Nat.le_of_ble_eq_true rfl⟩ rfl rfl dX7_walkLeaf_90 hw (fun r90 S90 H locs h hw => ?_)
          replace h := h
          refine lv_if_eq (tgt := 180) hx hb dX7_walkLeaf_93 (by decide) (fun c93 => ?_) (fun c93 => ?_)
          · have h := h.1 c93
            replace hl := lv_sub hl [0, 1, 2, 3, 4, 5, 6] rfl
            exact mb_X7_walkLeaf_lost_180 C0 _ ih x1 x2 x3 x5 x6 S90 _ _ ls h hw hl
          · have h := h.2 c93
            refine lv_goto (tgt := 113) hx hb dX7_walkLeaf_96 (by decide) ?_
            replace hl := lv_sub hl [0, 1, 2, 3, 4, 5, 6] rfl
            exact mb_X7_walkLeaf_lost_113 C0 _ (fun x1 x2 x3 x5 x6 S H locs ls h hw hl => mb_X7_walkLeaf_lost_180 C0 _ ih x1 x2 x3 x5 x6 S _ _ ls h hw hl) x1 x2 x3 x5 x6 S90 _ _ ls h hw hl
set_option maxHeartbeats 4000000 in
set_option maxRecDepth 100000 in
theorem mb_X7_walkLeaf_lost_60 {p : Program} {l : Launch} {e : Env} {s : State} {m : MethodId} {args : Array Value} {below : List Frame} {meth : Method} {c : Code} {D : va_G} {ad : Nat → Nat} {cI cJ cZ : ClassId} {A : Nat → Prop} {post : MS → Prop} (C0 : Cx p s m args meth c cX7_walkLeaf 8 RX7 none D cI cJ cZ A) :
 ∀ (x1 : Int32) (x2 : Int32) (x3 : Int32) (x5 : Int32) (S : MS) (H : Heap) (locs : List Loc) (ls : Array Slot), wp_X7_walkLeaf_lost_60 post x1 x2 x3 x5 S → Wd (WM ad cI cJ cZ) D A s.heap H locs S → lv_has ls 8 [(0, .ref (ad 0)), (1, .int x1), (2, .int x2), (3, .int x3), (4, .ref (ad 10)), (5, .int x5)] → W p l e rm_X7_walkLeaf_lost s m args below meth c H locs 0 0 (QV (WM ad cI cJ cZ) D A s args below post) (F0 m 60 ls []) := by
  have hx := C0.1
  have hb := C0.2.1
  intro x1 x2 x3 x5 S H locs ls h hw hl
  unfold wp_X7_walkLeaf_lost_60 at h
  refine lv_iconst (v := 0) hx hb dX7_walkLeaf_60 (by decide) ?_
  refine lv_istore (lv' := [(6, .int (0 : Int32)), (0, .ref (ad 0)), (1, .int x1), (2, .int x2), (3, .int x3), (4, .ref (ad 10)), (5, .int x5)]) hx hb dX7_walkLeaf_61 hl (by decide) rfl (fun ls hl => ?_)
  replace hl := lv_sub hl [1, 2, 3, 4, 5, 6, 0] rfl
  obtain ⟨n, h⟩ := h
  exact mb_X7_walkLeaf_lost_63 C0 n x1 x2 x3 x5 (0 : Int32) S _ _ ls h hw hl
set_option maxHeartbeats 4000000 in
set_option maxRecDepth 100000 in
theorem mb_X7_walkLeaf_lost_10 {p : Program} {l : Launch} {e : Env} {s : State} {m : MethodId} {args : Array Value} {below : List Frame} {meth : Method} {c : Code} {D : va_G} {ad : Nat → Nat} {cI cJ cZ : ClassId} {A : Nat → Prop} {post : MS → Prop} (C0 : Cx p s m args meth c cX7_walkLeaf 8 RX7 none D cI cJ cZ A) :
 ∀ (n : Nat) (x1 : Int32) (x2 : Int32) (x3 : Int32) (x5 : Int32) (x6 : Int32) (S : MS) (H : Heap) (locs : List Loc) (ls : Array Slot), wp_X7_walkLeaf_lost_10 post n x1 x2 x3 x5 x6 S → Wd (WM ad cI cJ cZ) D A s.heap H locs S → lv_has ls 8 [(0, .ref (ad 0)), (1, .int x1), (2, .int x2), (3, .int x3), (4, .ref (ad 10)), (5, .int x5), (6, .int x6)] → W p l e rm_X7_walkLeaf_lost s m args below meth c H locs 0 0 (QV (WM ad cI cJ cZ) D A s args below post) (F0 m 10 ls []) := by
  have hx := C0.1
  have hb := C0.2.1
  intro n
  induction n with
  | zero => intro x1 x2 x3 x5 x6 S H locs ls h; exact h.elim
  | succ n ih =>
    intro x1 x2 x3 x5 x6 S H locs ls h hw hl
    replace h : ws_X7_walkLeaf_lost_10 (wp_X7_walkLeaf_lost_10  post n)  post x1 x2 x3 x5 x6 S := h
    unfold ws_X7_walkLeaf_lost_10 at h
    refine lv_iload hx hb dX7_walkLeaf_10 (lv_at hl 6 rfl) ?_
    refine lv_sipush (v := 150) hx hb dX7_walkLeaf_12 (by decide) ?_
    refine lv_icmp_ge (tgt := 36) hx hb dX7_walkLeaf_15 (by decide) (fun c15 => ?_) (fun c15 => ?_)
    · have h := h.1 c15
      refine lv_aload_n hx hb dX7_walkLeaf_36 rfl (lv_at hl 0 rfl) ?_
      refine lv_iconst (v := 0) hx hb dX7_walkLeaf_37 (by decide) ?_
      refine pf_X7_piled C0 hw dX7_walkLeaf_38 (fun H locs hw => ?_)
      obtain ⟨S_1, eS_1⟩ : ∃ z, z = sM_piled S (0 : Int32) := ⟨_, rfl⟩
      rw [← eS_1] at hw
      have h := h S_1 eS_1
      refine lv_aload_n hx hb dX7_walkLeaf_41 rfl (lv_at hl 0 rfl) ?_
      refine gf_X7_atFirst C0 hw dX7_walkLeaf_42 ?_
      refine lv_iload_n hx hb dX7_walkLeaf_45 rfl (lv_at hl 1 rfl) ?_
      refine ld_M_atF C0 hw h.1 dX7_walkLeaf_46 ?_
      have h := h.2
      refine lv_iload_n hx hb dX7_walkLeaf_47 rfl (lv_at hl 3 rfl) ?_
      refine lv_icmp_ne (tgt := 60) hx hb dX7_walkLeaf_48 (by decide) (fun c48 => ?_) (fun c48 => ?_)
      · have h := h.1 c48
        replace hl := lv_sub hl [0, 1, 2, 3, 4, 5] rfl
        exact mb_X7_walkLeaf_lost_60 C0 x1 x2 x3 x5 S_1 _ _ ls h hw hl
      · have h := h.2 c48
        refine lv_aload_n hx hb dX7_walkLeaf_51 rfl (lv_at hl 0 rfl) ?_
        refine lv_aload hx hb dX7_walkLeaf_52 (lv_at hl 4 rfl) ?_
        refine lv_iload hx hb dX7_walkLeaf_54 (lv_at hl 5 rfl) ?_
        refine lv_iconst (v := 0) hx hb dX7_walkLeaf_56 (by decide) ?_
        refine clVV (As := [.ref (ad 10), .int x5, .int (0 : Int32)]) (rest := []) (ci := 6) (k := 0) C0 (m_X7_come_lost l D ad cI cJ cZ S_1 x5 (0 : Int32) _ h) cal_X7_come kw_328 kw_327 kw_326 rfl rfl rfl rfl hl.1 rfl (Nat.le_of_ble_eq_true rfl) ⟨Nat.le_of_ble_eq_true rfl, Nat.le_of_ble_eq_true rfl⟩ rfl rfl dX7_walkLeaf_57 hw (fun S57 H locs h hw => ?_)
        replace h := h
        replace hl := lv_sub hl [0, 1, 2, 3, 4, 5] rfl
        exact mb_X7_walkLeaf_lost_60 C0 x1 x2 x3 x5 S57 _ _ ls h hw hl
    · have h := h.2 c15
      refine lv_aload hx hb dX7_walkLeaf_18 (lv_at hl 4 rfl) ?_
      refine lv_bipush (v := 64) hx hb dX7_walkLeaf_20 (by decide) ?_
      refine lv_iload hx hb dX7_walkLeaf_22 (lv_at hl 6 rfl) ?_
      refine lv_imul hx hb dX7_walkLeaf_24 ?_
      refine lv_iload hx hb dX7_walkLeaf_25 (lv_at hl 5 rfl) ?_
      refine lv_iadd hx hb dX7_walkLeaf_27 ?_
      refine lv_iconst (v := 0) hx hb dX7_walkLeaf_28 (by decide) ?_
      refine st_M_lost C0 hw h.1 dX7_walkLeaf_29 (fun H locs hw => ?_)
      have h := h.2
      obtain ⟨S_2, eS_2⟩ : ∃ z, z = sM_lost S (upd (gM_lost S) (((64 : Int32) * x6) + x5).toNatClampNeg (vp_nar .boolean (0 : Int32))) := ⟨_, rfl⟩
      rw [← eS_2] at hw
      have h := h S_2 eS_2
      obtain ⟨x6_3, ex6_3⟩ : ∃ y : Int32, y = x6 + (1 : Int32) := ⟨_, rfl⟩
      refine lv_iinc (v := x6_3) (lv' := [(6, .int x6_3), (0, .ref (ad 0)), (1, .int x1), (2, .int x2), (3, .int x3), (4, .ref (ad 10)), (5, .int x5)]) hx hb dX7_walkLeaf_30 hl (k := 6) rfl (by rw [ex6_3]; rfl) (by decide) rfl (fun ls hl => ?_)
      have h := h x6_3 ex6_3
      refine lv_goto (tgt := 10) hx hb dX7_walkLeaf_33 (by decide) ?_
      replace hl := lv_sub hl [1, 2, 3, 4, 5, 6, 0] rfl
      exact ih x1 x2 x3 x5 x6_3 S_2 _ _ _ h hw hl
set_option maxHeartbeats 4000000 in
set_option maxRecDepth 100000 in
theorem m_X7_walkLeaf_lost (l : Launch) (D : va_G) (ad : Nat → Nat) (cI cJ cZ : ClassId) (S : MS) (x1 : Int32) (x2 : Int32) (x3 : Int32) (post : MS → Prop) (h : wp_X7_walkLeaf_lost S x1 x2 x3 post) : CV (WM ad cI cJ cZ) D cI cJ cZ l yX7_walkLeaf (.code yX7_walkLeaf cX7_walkLeaf 8 none :: gt) rm_X7_walkLeaf_lost S [.ref (ad 0), .int x1, .int x2, .int x3, .ref (ad 10)] post := by
  refine enV (by decide) (Nat.le_of_ble_eq_true rfl) ?_
  intro p e s m below meth c A ls C0 hw hl
  have C0 : Cx p s m _ meth c cX7_walkLeaf 8 RX7 none D cI cJ cZ A := C0
  have hl : lv_has ls 8 [(0, .ref (ad 0)), (1, .int x1), (2, .int x2), (3, .int x3), (4, .ref (ad 10))] := hl
  have hx := C0.1
  have hb := C0.2.1
  unfold wp_X7_walkLeaf_lost at h
  refine lv_iconst (v := 4) hx hb dX7_walkLeaf_0 (by decide) ?_
  refine lv_iload_n hx hb dX7_walkLeaf_1 rfl (lv_at hl 1 rfl) ?_
  refine lv_imul hx hb dX7_walkLeaf_2 ?_
  refine lv_iload_n hx hb dX7_walkLeaf_3 rfl (lv_at hl 2 rfl) ?_
  refine lv_iadd hx hb dX7_walkLeaf_4 ?_
  refine lv_topi (fun x5_1 ex5_1 => ?_)
  have h := h x5_1 ex5_1
  refine lv_istore (lv' := [(5, .int x5_1), (0, .ref (ad 0)), (1, .int x1), (2, .int x2), (3, .int x3), (4, .ref (ad 10))]) hx hb dX7_walkLeaf_5 hl (by decide) rfl (fun ls hl => ?_)
  refine lv_iconst (v := 0) hx hb dX7_walkLeaf_7 (by decide) ?_
  refine lv_istore (lv' := [(6, .int (0 : Int32)), (5, .int x5_1), (0, .ref (ad 0)), (1, .int x1), (2, .int x2), (3, .int x3), (4, .ref (ad 10))]) hx hb dX7_walkLeaf_8 hl (by decide) rfl (fun ls hl => ?_)
  replace hl := lv_sub hl [2, 3, 4, 5, 6, 1, 0] rfl
  obtain ⟨n, h⟩ := h
  exact mb_X7_walkLeaf_lost_10 C0 n x1 x2 x3 x5_1 (0 : Int32) S _ _ ls h hw hl
abbrev rm_X7_come_had : Room := { frames := 0, cells := 0, slots := 0, locals := 0 }
set_option maxHeartbeats 4000000 in
set_option maxRecDepth 100000 in
theorem m_X7_come_had (l : Launch) (D : va_G) (ad : Nat → Nat) (cI cJ cZ : ClassId) (S : MS) (x2 : Int32) (x3 : Int32) (post : MS → Prop) (h : wp_X7_come_had S x2 x3 post) : CV (WM ad cI cJ cZ) D cI cJ cZ l yX7_come (.code yX7_come cX7_come 4 none :: gt) rm_X7_come_had S [.ref (ad 0), .ref (ad 11), .int x2, .int x3] post := by
  refine enV (by decide) (Nat.le_of_ble_eq_true rfl) ?_
  intro p e s m below meth c A ls C0 hw hl
  have C0 : Cx p s m _ meth c cX7_come 4 RX7 none D cI cJ cZ A := C0
  have hl : lv_has ls 4 [(0, .ref (ad 0)), (1, .ref (ad 11)), (2, .int x2), (3, .int x3)] := hl
  have hx := C0.1
  have hb := C0.2.1
  unfold wp_X7_come_had at h
  refine lv_aload_n hx hb dX7_come_0 rfl (lv_at hl 1 rfl) ?_
  refine lv_iload_n hx hb dX7_come_1 rfl (lv_at hl 2 rfl) ?_
  refine ld_M_had C0 hw h.1 dX7_come_2 ?_
  have h := h.2
  refine lv_if_eq (tgt := 7) hx hb dX7_come_3 (by decide) (fun c3 => ?_) (fun c3 => ?_)
  · have h := h.1 c3
    refine lv_aload_n hx hb dX7_come_7 rfl (lv_at hl 1 rfl) ?_
    refine lv_iload_n hx hb dX7_come_8 rfl (lv_at hl 2 rfl) ?_
    refine lv_iconst (v := 1) hx hb dX7_come_9 (by decide) ?_
    refine st_M_had C0 hw h.1 dX7_come_10 (fun H locs hw => ?_)
    have h := h.2
    obtain ⟨S_1, eS_1⟩ : ∃ z, z = sM_had S (upd (gM_had S) (x2).toNatClampNeg (vp_nar .boolean (1 : Int32))) := ⟨_, rfl⟩
    rw [← eS_1] at hw
    have h := h S_1 eS_1
    refine lv_aload_n hx hb dX7_come_11 rfl (lv_at hl 0 rfl) ?_
    refine gf_X7_pile C0 hw dX7_come_12 ?_
    refine lv_aload_n hx hb dX7_come_15 rfl (lv_at hl 0 rfl) ?_
    refine gf_X7_piled C0 hw dX7_come_16 ?_
    refine lv_iload_n hx hb dX7_come_19 rfl (lv_at hl 3 rfl) ?_
    refine st_M_pile C0 hw h.1 dX7_come_20 (fun H locs hw => ?_)
    have h := h.2
    obtain ⟨S_2, eS_2⟩ : ∃ z, z = sM_pile S_1 (upd (gM_pile S_1) (gM_piled S_1).toNatClampNeg x3) := ⟨_, rfl⟩
    rw [← eS_2] at hw
    have h := h S_2 eS_2
    refine lv_aload_n hx hb dX7_come_21 rfl (lv_at hl 0 rfl) ?_
    refine lv_dup hx hb dX7_come_22 rfl ?_
    refine gf_X7_piled C0 hw dX7_come_23 ?_
    refine lv_iconst (v := 1) hx hb dX7_come_26 (by decide) ?_
    refine lv_iadd hx hb dX7_come_27 ?_
    refine pf_X7_piled C0 hw dX7_come_28 (fun H locs hw => ?_)
    obtain ⟨S_3, eS_3⟩ : ∃ z, z = sM_piled S_2 ((gM_piled S_2) + (1 : Int32)) := ⟨_, rfl⟩
    rw [← eS_3] at hw
    have h := h S_3 eS_3
    exact rtV C0 hw h dX7_come_31
  · have h := h.2 c3
    exact rtV C0 hw h dX7_come_6
abbrev rm_X7_walkLeaf_had : Room := { frames := 2, cells := 0, slots := 0, locals := 45 }
set_option maxHeartbeats 4000000 in
set_option maxRecDepth 100000 in
theorem mb_X7_walkLeaf_had_180 {p : Program} {l : Launch} {e : Env} {s : State} {m : MethodId} {args : Array Value} {below : List Frame} {meth : Method} {c : Code} {D : va_G} {ad : Nat → Nat} {cI cJ cZ : ClassId} {A : Nat → Prop} {post : MS → Prop} (C0 : Cx p s m args meth c cX7_walkLeaf 8 RX7 none D cI cJ cZ A) (K63 : Int32 → Int32 → Int32 → Int32 → Int32 → MS → Prop) (hK63 : ∀ (x1 : Int32) (x2 : Int32) (x3 : Int32) (x5 : Int32) (x6 : Int32) (S : MS) (H : Heap) (locs : List Loc) (ls : Array Slot), K63 x1 x2 x3 x5 x6 S → Wd (WM ad cI cJ cZ) D A s.heap H locs S → lv_has ls 8 [(0, .ref (ad 0)), (1, .int x1), (2, .int x2), (3, .int x3), (4, .ref (ad 11)), (5, .int x5), (6, .int x6)] → W p l e rm_X7_walkLeaf_had s m args below meth c H locs 0 0 (QV (WM ad cI cJ cZ) D A s args below post) (F0 m 63 ls [])) :
 ∀ (x1 : Int32) (x2 : Int32) (x3 : Int32) (x5 : Int32) (x6 : Int32) (S : MS) (H : Heap) (locs : List Loc) (ls : Array Slot), wp_X7_walkLeaf_had_180 K63 post x1 x2 x3 x5 x6 S → Wd (WM ad cI cJ cZ) D A s.heap H locs S → lv_has ls 8 [(0, .ref (ad 0)), (1, .int x1), (2, .int x2), (3, .int x3), (4, .ref (ad 11)), (5, .int x5), (6, .int x6)] → W p l e rm_X7_walkLeaf_had s m args below meth c H locs 0 0 (QV (WM ad cI cJ cZ) D A s args below post) (F0 m 180 ls []) := by
  have hx := C0.1
  have hb := C0.2.1
  intro x1 x2 x3 x5 x6 S H locs ls h hw hl
  unfold wp_X7_walkLeaf_had_180 at h
  obtain ⟨x6_1, ex6_1⟩ : ∃ y : Int32, y = x6 + (1 : Int32) := ⟨_, rfl⟩
  refine lv_iinc (v := x6_1) (lv' := [(6, .int x6_1), (0, .ref (ad 0)), (1, .int x1), (2, .int x2), (3, .int x3), (4, .ref (ad 11)), (5, .int x5)]) hx hb dX7_walkLeaf_180 hl (k := 6) rfl (by rw [ex6_1]; rfl) (by decide) rfl (fun ls hl => ?_)
  have h := h x6_1 ex6_1
  refine lv_goto (tgt := 63) hx hb dX7_walkLeaf_183 (by decide) ?_
  replace hl := lv_sub hl [1, 2, 3, 4, 5, 6, 0] rfl
  exact hK63 x1 x2 x3 x5 x6_1 S _ _ _ h hw hl
set_option maxHeartbeats 4000000 in
set_option maxRecDepth 100000 in
theorem mb_X7_walkLeaf_had_174 {p : Program} {l : Launch} {e : Env} {s : State} {m : MethodId} {args : Array Value} {below : List Frame} {meth : Method} {c : Code} {D : va_G} {ad : Nat → Nat} {cI cJ cZ : ClassId} {A : Nat → Prop} {post : MS → Prop} (C0 : Cx p s m args meth c cX7_walkLeaf 8 RX7 none D cI cJ cZ A) (K116 : Int32 → Int32 → Int32 → Int32 → Int32 → Int32 → MS → Prop) (hK116 : ∀ (x1 : Int32) (x2 : Int32) (x3 : Int32) (x5 : Int32) (x6 : Int32) (x7 : Int32) (S : MS) (H : Heap) (locs : List Loc) (ls : Array Slot), K116 x1 x2 x3 x5 x6 x7 S → Wd (WM ad cI cJ cZ) D A s.heap H locs S → lv_has ls 8 [(0, .ref (ad 0)), (1, .int x1), (2, .int x2), (3, .int x3), (4, .ref (ad 11)), (5, .int x5), (6, .int x6), (7, .int x7)] → W p l e rm_X7_walkLeaf_had s m args below meth c H locs 0 0 (QV (WM ad cI cJ cZ) D A s args below post) (F0 m 116 ls [])) :
 ∀ (x1 : Int32) (x2 : Int32) (x3 : Int32) (x5 : Int32) (x6 : Int32) (x7 : Int32) (S : MS) (H : Heap) (locs : List Loc) (ls : Array Slot), wp_X7_walkLeaf_had_174 K116 post x1 x2 x3 x5 x6 x7 S → Wd (WM ad cI cJ cZ) D A s.heap H locs S → lv_has ls 8 [(0, .ref (ad 0)), (1, .int x1), (2, .int x2), (3, .int x3), (4, .ref (ad 11)), (5, .int x5), (6, .int x6), (7, .int x7)] → W p l e rm_X7_walkLeaf_had s m args below meth c H locs 0 0 (QV (WM ad cI cJ cZ) D A s args below post) (F0 m 174 ls []) := by
  have hx := C0.1
  have hb := C0.2.1
  intro x1 x2 x3 x5 x6 x7 S H locs ls h hw hl
  unfold wp_X7_walkLeaf_had_174 at h
  obtain ⟨x7_1, ex7_1⟩ : ∃ y : Int32, y = x7 + (1 : Int32) := ⟨_, rfl⟩
  refine lv_iinc (v := x7_1) (lv' := [(7, .int x7_1), (0, .ref (ad 0)), (1, .int x1), (2, .int x2), (3, .int x3), (4, .ref (ad 11)), (5, .int x5), (6, .int x6)]) hx hb dX7_walkLeaf_174 hl (k := 7) rfl (by rw [ex7_1]; rfl) (by decide) rfl (fun ls hl => ?_)
  have h := h x7_1 ex7_1
  refine lv_goto (tgt := 116) hx hb dX7_walkLeaf_177 (by decide) ?_
  replace hl := lv_sub hl [1, 2, 3, 4, 5, 6, 7, 0] rfl
  exact hK116 x1 x2 x3 x5 x6 x7_1 S _ _ _ h hw hl
set_option maxHeartbeats 4000000 in
set_option maxRecDepth 100000 in
theorem mb_X7_walkLeaf_had_116 {p : Program} {l : Launch} {e : Env} {s : State} {m : MethodId} {args : Array Value} {below : List Frame} {meth : Method} {c : Code} {D : va_G} {ad : Nat → Nat} {cI cJ cZ : ClassId} {A : Nat → Prop} {post : MS → Prop} (C0 : Cx p s m args meth c cX7_walkLeaf 8 RX7 none D cI cJ cZ A) (K180 : Int32 → Int32 → Int32 → Int32 → Int32 → MS → Prop) (hK180 : ∀ (x1 : Int32) (x2 : Int32) (x3 : Int32) (x5 : Int32) (x6 : Int32) (S : MS) (H : Heap) (locs : List Loc) (ls : Array Slot), K180 x1 x2 x3 x5 x6 S → Wd (WM ad cI cJ cZ) D A s.heap H locs S → lv_has ls 8 [(0, .ref (ad 0)), (1, .int x1), (2, .int x2), (3, .int x3), (4, .ref (ad 11)), (5, .int x5), (6, .int x6)] → W p l e rm_X7_walkLeaf_had s m args below meth c H locs 0 0 (QV (WM ad cI cJ cZ) D A s args below post) (F0 m 180 ls [])) :
 ∀ (n : Nat) (x1 : Int32) (x2 : Int32) (x3 : Int32) (x5 : Int32) (x6 : Int32) (x7 : Int32) (S : MS) (H : Heap) (locs : List Loc) (ls : Array Slot), wp_X7_walkLeaf_had_116 K180 post n x1 x2 x3 x5 x6 x7 S → Wd (WM ad cI cJ cZ) D A s.heap H locs S → lv_has ls 8 [(0, .ref (ad 0)), (1, .int x1), (2, .int x2), (3, .int x3), (4, .ref (ad 11)), (5, .int x5), (6, .int x6), (7, .int x7)] → W p l e rm_X7_walkLeaf_had s m args below meth c H locs 0 0 (QV (WM ad cI cJ cZ) D A s args below post) (F0 m 116 ls []) := by
  have hx := C0.1
  have hb := C0.2.1
  intro n
  induction n with
  | zero => intro x1 x2 x3 x5 x6 x7 S H locs ls h; exact h.elim
  | succ n ih =>
    intro x1 x2 x3 x5 x6 x7 S H locs ls h hw hl
    replace h : ws_X7_walkLeaf_had_116 (wp_X7_walkLeaf_had_116 K180 post n) K180 post x1 x2 x3 x5 x6 x7 S := h
    unfold ws_X7_walkLeaf_had_116 at h
    refine lv_iload hx hb dX7_walkLeaf_116 (lv_at hl 7 rfl) ?_
    refine lv_iconst (v := 4) hx hb dX7_walkLeaf_118 (by decide) ?_
    refine lv_icmp_ge (tgt := 180) hx hb dX7_walkLeaf_119 (by decide) (fun c119 => ?_) (fun c119 => ?_)
    · have h := h.1 c119
      replace hl := lv_sub hl [0, 1, 2, 3, 4, 5, 6] rfl
      exact hK180 x1 x2 x3 x5 x6 S _ _ _ h hw hl
    · have h := h.2 c119
      refine lv_aload_n hx hb dX7_walkLeaf_122 rfl (lv_at hl 0 rfl) ?_
      refine gf_X7_nexts C0 hw dX7_walkLeaf_123 ?_
      refine lv_iconst (v := 4) hx hb dX7_walkLeaf_126 (by decide) ?_
      refine lv_iload hx hb dX7_walkLeaf_127 (lv_at hl 6 rfl) ?_
      refine lv_imul hx hb dX7_walkLeaf_129 ?_
      refine lv_iload hx hb dX7_walkLeaf_130 (lv_at hl 7 rfl) ?_
      refine lv_iadd hx hb dX7_walkLeaf_132 ?_
      refine ld_M_nexts C0 hw h.1 dX7_walkLeaf_133 ?_
      have h := h.2
      refine lv_iconst (v := -1) hx hb dX7_walkLeaf_134 (by decide) ?_
      refine lv_icmp_eq (tgt := 174) hx hb dX7_walkLeaf_135 (by decide) (fun c135 => ?_) (fun c135 => ?_)
      · have h := h.1 c135
        replace hl := lv_sub hl [0, 1, 2, 3, 4, 5, 6, 7] rfl
        exact mb_X7_walkLeaf_had_174 C0 _ ih x1 x2 x3 x5 x6 x7 S _ _ ls h hw hl
      · have h := h.2 c135
        refine lv_aload_n hx hb dX7_walkLeaf_138 rfl (lv_at hl 0 rfl) ?_
        refine lv_aload hx hb dX7_walkLeaf_139 (lv_at hl 4 rfl) ?_
        refine lv_bipush (v := 64) hx hb dX7_walkLeaf_141 (by decide) ?_
        refine lv_aload_n hx hb dX7_walkLeaf_143 rfl (lv_at hl 0 rfl) ?_
        refine gf_X7_nexts C0 hw dX7_walkLeaf_144 ?_
        refine lv_iconst (v := 4) hx hb dX7_walkLeaf_147 (by decide) ?_
        refine lv_iload hx hb dX7_walkLeaf_148 (lv_at hl 6 rfl) ?_
        refine lv_imul hx hb dX7_walkLeaf_150 ?_
        refine lv_iload hx hb dX7_walkLeaf_151 (lv_at hl 7 rfl) ?_
        refine lv_iadd hx hb dX7_walkLeaf_153 ?_
        refine ld_M_nexts C0 hw h.1 dX7_walkLeaf_154 ?_
        have h := h.2
        refine lv_imul hx hb dX7_walkLeaf_155 ?_
        refine lv_iload hx hb dX7_walkLeaf_156 (lv_at hl 5 rfl) ?_
        refine lv_iadd hx hb dX7_walkLeaf_158 ?_
        refine lv_aload_n hx hb dX7_walkLeaf_159 rfl (lv_at hl 0 rfl) ?_
        refine gf_X7_nexts C0 hw dX7_walkLeaf_160 ?_
        refine lv_iconst (v := 4) hx hb dX7_walkLeaf_163 (by decide) ?_
        refine lv_iload hx hb dX7_walkLeaf_164 (lv_at hl 6 rfl) ?_
        refine lv_imul hx hb dX7_walkLeaf_166 ?_
        refine lv_iload hx hb dX7_walkLeaf_167 (lv_at hl 7 rfl) ?_
        refine lv_iadd hx hb dX7_walkLeaf_169 ?_
        refine ld_M_nexts C0 hw h.1 dX7_walkLeaf_170 ?_
        have h := h.2
        refine clVV (As := [.ref (ad 11), .int (((64 : Int32) * (gM_nexts S (((4 : Int32) * x6) + x7).toNatClampNeg)) + x5), .int (gM_nexts S (((4 : Int32) * x6) + x7).toNatClampNeg)]) (rest := []) (ci := 6) (k := 0) C0 (m_X7_come_had l D ad cI cJ cZ S (((64 : Int32) * (gM_nexts S (((4 : Int32) * x6) + x7).toNatClampNeg)) + x5) (gM_nexts S (((4 : Int32) * x6) + x7).toNatClampNeg) _ h) cal_X7_come kw_328 kw_327 kw_326 rfl rfl rfl rfl hl.1 rfl (Nat.le_of_ble_eq_true rfl) ⟨Nat.le_of_ble_eq_true rfl, Nat.le_of_ble_eq_true rfl⟩ rfl rfl dX7_walkLeaf_171 hw (fun S171 H locs h hw => ?_)
        replace h := h
        replace hl := lv_sub hl [0, 1, 2, 3, 4, 5, 6, 7] rfl
        exact mb_X7_walkLeaf_had_174 C0 _ ih x1 x2 x3 x5 x6 x7 S171 _ _ ls h hw hl
set_option maxHeartbeats 4000000 in
set_option maxRecDepth 100000 in
theorem mb_X7_walkLeaf_had_113 {p : Program} {l : Launch} {e : Env} {s : State} {m : MethodId} {args : Array Value} {below : List Frame} {meth : Method} {c : Code} {D : va_G} {ad : Nat → Nat} {cI cJ cZ : ClassId} {A : Nat → Prop} {post : MS → Prop} (C0 : Cx p s m args meth c cX7_walkLeaf 8 RX7 none D cI cJ cZ A) (K180 : Int32 → Int32 → Int32 → Int32 → Int32 → MS → Prop) (hK180 : ∀ (x1 : Int32) (x2 : Int32) (x3 : Int32) (x5 : Int32) (x6 : Int32) (S : MS) (H : Heap) (locs : List Loc) (ls : Array Slot), K180 x1 x2 x3 x5 x6 S → Wd (WM ad cI cJ cZ) D A s.heap H locs S → lv_has ls 8 [(0, .ref (ad 0)), (1, .int x1), (2, .int x2), (3, .int x3), (4, .ref (ad 11)), (5, .int x5), (6, .int x6)] → W p l e rm_X7_walkLeaf_had s m args below meth c H locs 0 0 (QV (WM ad cI cJ cZ) D A s args below post) (F0 m 180 ls [])) :
 ∀ (x1 : Int32) (x2 : Int32) (x3 : Int32) (x5 : Int32) (x6 : Int32) (S : MS) (H : Heap) (locs : List Loc) (ls : Array Slot), wp_X7_walkLeaf_had_113 K180 post x1 x2 x3 x5 x6 S → Wd (WM ad cI cJ cZ) D A s.heap H locs S → lv_has ls 8 [(0, .ref (ad 0)), (1, .int x1), (2, .int x2), (3, .int x3), (4, .ref (ad 11)), (5, .int x5), (6, .int x6)] → W p l e rm_X7_walkLeaf_had s m args below meth c H locs 0 0 (QV (WM ad cI cJ cZ) D A s args below post) (F0 m 113 ls []) := by
  have hx := C0.1
  have hb := C0.2.1
  intro x1 x2 x3 x5 x6 S H locs ls h hw hl
  unfold wp_X7_walkLeaf_had_113 at h
  refine lv_iconst (v := 0) hx hb dX7_walkLeaf_113 (by decide) ?_
  refine lv_istore (lv' := [(7, .int (0 : Int32)), (0, .ref (ad 0)), (1, .int x1), (2, .int x2), (3, .int x3), (4, .ref (ad 11)), (5, .int x5), (6, .int x6)]) hx hb dX7_walkLeaf_114 hl (by decide) rfl (fun ls hl => ?_)
  replace hl := lv_sub hl [1, 2, 3, 4, 5, 6, 7, 0] rfl
  obtain ⟨n, h⟩ := h
  exact mb_X7_walkLeaf_had_116 C0 _ hK180 n x1 x2 x3 x5 x6 (0 : Int32) S _ _ ls h hw hl
set_option maxHeartbeats 4000000 in
set_option maxRecDepth 100000 in
theorem mb_X7_walkLeaf_had_307 {p : Program} {l : Launch} {e : Env} {s : State} {m : MethodId} {args : Array Value} {below : List Frame} {meth : Method} {c : Code} {D : va_G} {ad : Nat → Nat} {cI cJ cZ : ClassId} {A : Nat → Prop} {post : MS → Prop} (C0 : Cx p s m args meth c cX7_walkLeaf 8 RX7 none D cI cJ cZ A) (K249 : Int32 → Int32 → Int32 → Int32 → Int32 → Int32 → MS → Prop) (hK249 : ∀ (x1 : Int32) (x2 : Int32) (x3 : Int32) (x5 : Int32) (x6 : Int32) (x7 : Int32) (S : MS) (H : Heap) (locs : List Loc) (ls : Array Slot), K249 x1 x2 x3 x5 x6 x7 S → Wd (WM ad cI cJ cZ) D A s.heap H locs S → lv_has ls 8 [(0, .ref (ad 0)), (1, .int x1), (2, .int x2), (3, .int x3), (4, .ref (ad 11)), (5, .int x5), (6, .int x6), (7, .int x7)] → W p l e rm_X7_walkLeaf_had s m args below meth c H locs 0 0 (QV (WM ad cI cJ cZ) D A s args below post) (F0 m 249 ls [])) :
 ∀ (x1 : Int32) (x2 : Int32) (x3 : Int32) (x5 : Int32) (x6 : Int32) (x7 : Int32) (S : MS) (H : Heap) (locs : List Loc) (ls : Array Slot), wp_X7_walkLeaf_had_307 K249 post x1 x2 x3 x5 x6 x7 S → Wd (WM ad cI cJ cZ) D A s.heap H locs S → lv_has ls 8 [(0, .ref (ad 0)), (1, .int x1), (2, .int x2), (3, .int x3), (4, .ref (ad 11)), (5, .int x5), (6, .int x6), (7, .int x7)] → W p l e rm_X7_walkLeaf_had s m args below meth c H locs 0 0 (QV (WM ad cI cJ cZ) D A s args below post) (F0 m 307 ls []) := by
  have hx := C0.1
  have hb := C0.2.1
  intro x1 x2 x3 x5 x6 x7 S H locs ls h hw hl
  unfold wp_X7_walkLeaf_had_307 at h
  obtain ⟨x7_1, ex7_1⟩ : ∃ y : Int32, y = x7 + (1 : Int32) := ⟨_, rfl⟩
  refine lv_iinc (v := x7_1) (lv' := [(7, .int x7_1), (0, .ref (ad 0)), (1, .int x1), (2, .int x2), (3, .int x3), (4, .ref (ad 11)), (5, .int x5), (6, .int x6)]) hx hb dX7_walkLeaf_307 hl (k := 7) rfl (by rw [ex7_1]; rfl) (by decide) rfl (fun ls hl => ?_)
  have h := h x7_1 ex7_1
  refine lv_goto (tgt := 249) hx hb dX7_walkLeaf_310 (by decide) ?_
  replace hl := lv_sub hl [1, 2, 3, 4, 5, 6, 7, 0] rfl
  exact hK249 x1 x2 x3 x5 x6 x7_1 S _ _ _ h hw hl
set_option maxHeartbeats 4000000 in
set_option maxRecDepth 100000 in
theorem mb_X7_walkLeaf_had_249 {p : Program} {l : Launch} {e : Env} {s : State} {m : MethodId} {args : Array Value} {below : List Frame} {meth : Method} {c : Code} {D : va_G} {ad : Nat → Nat} {cI cJ cZ : ClassId} {A : Nat → Prop} {post : MS → Prop} (C0 : Cx p s m args meth c cX7_walkLeaf 8 RX7 none D cI cJ cZ A) (K186 : Int32 → Int32 → Int32 → Int32 → MS → Prop) (hK186 : ∀ (x1 : Int32) (x2 : Int32) (x3 : Int32) (x5 : Int32) (S : MS) (H : Heap) (locs : List Loc) (ls : Array Slot), K186 x1 x2 x3 x5 S → Wd (WM ad cI cJ cZ) D A s.heap H locs S → lv_has ls 8 [(0, .ref (ad 0)), (1, .int x1), (2, .int x2), (3, .int x3), (4, .ref (ad 11)), (5, .int x5)] → W p l e rm_X7_walkLeaf_had s m args below meth c H locs 0 0 (QV (WM ad cI cJ cZ) D A s args below post) (F0 m 186 ls [])) :
 ∀ (n : Nat) (x1 : Int32) (x2 : Int32) (x3 : Int32) (x5 : Int32) (x6 : Int32) (x7 : Int32) (S : MS) (H : Heap) (locs : List Loc) (ls : Array Slot), wp_X7_walkLeaf_had_249 K186 post n x1 x2 x3 x5 x6 x7 S → Wd (WM ad cI cJ cZ) D A s.heap H locs S → lv_has ls 8 [(0, .ref (ad 0)), (1, .int x1), (2, .int x2), (3, .int x3), (4, .ref (ad 11)), (5, .int x5), (6, .int x6), (7, .int x7)] → W p l e rm_X7_walkLeaf_had s m args below meth c H locs 0 0 (QV (WM ad cI cJ cZ) D A s args below post) (F0 m 249 ls []) := by
  have hx := C0.1
  have hb := C0.2.1
  intro n
  induction n with
  | zero => intro x1 x2 x3 x5 x6 x7 S H locs ls h; exact h.elim
  | succ n ih =>
    intro x1 x2 x3 x5 x6 x7 S H locs ls h hw hl
    replace h : ws_X7_walkLeaf_had_249 (wp_X7_walkLeaf_had_249 K186 post n) K186 post x1 x2 x3 x5 x6 x7 S := h
    unfold ws_X7_walkLeaf_had_249 at h
    refine lv_iload hx hb dX7_walkLeaf_249 (lv_at hl 7 rfl) ?_
    refine lv_iconst (v := 4) hx hb dX7_walkLeaf_251 (by decide) ?_
    refine lv_icmp_ge (tgt := 313) hx hb dX7_walkLeaf_252 (by decide) (fun c252 => ?_) (fun c252 => ?_)
    · have h := h.1 c252
      refine lv_goto (tgt := 186) hx hb dX7_walkLeaf_313 (by decide) ?_
      replace hl := lv_sub hl [0, 1, 2, 3, 4, 5] rfl
      exact hK186 x1 x2 x3 x5 S _ _ _ h hw hl
    · have h := h.2 c252
      refine lv_aload_n hx hb dX7_walkLeaf_255 rfl (lv_at hl 0 rfl) ?_
      refine gf_X7_nexts C0 hw dX7_walkLeaf_256 ?_
      refine lv_iconst (v := 4) hx hb dX7_walkLeaf_259 (by decide) ?_
      refine lv_iload hx hb dX7_walkLeaf_260 (lv_at hl 6 rfl) ?_
      refine lv_imul hx hb dX7_walkLeaf_262 ?_
      refine lv_iload hx hb dX7_walkLeaf_263 (lv_at hl 7 rfl) ?_
      refine lv_iadd hx hb dX7_walkLeaf_265 ?_
      refine ld_M_nexts C0 hw h.1 dX7_walkLeaf_266 ?_
      have h := h.2
      refine lv_iconst (v := -1) hx hb dX7_walkLeaf_267 (by decide) ?_
      refine lv_icmp_eq (tgt := 307) hx hb dX7_walkLeaf_268 (by decide) (fun c268 => ?_) (fun c268 => ?_)
      · have h := h.1 c268
        replace hl := lv_sub hl [0, 1, 2, 3, 4, 5, 6, 7] rfl
        exact mb_X7_walkLeaf_had_307 C0 _ ih x1 x2 x3 x5 x6 x7 S _ _ ls h hw hl
      · have h := h.2 c268
        refine lv_aload_n hx hb dX7_walkLeaf_271 rfl (lv_at hl 0 rfl) ?_
        refine lv_aload hx hb dX7_walkLeaf_272 (lv_at hl 4 rfl) ?_
        refine lv_bipush (v := 64) hx hb dX7_walkLeaf_274 (by decide) ?_
        refine lv_aload_n hx hb dX7_walkLeaf_276 rfl (lv_at hl 0 rfl) ?_
        refine gf_X7_nexts C0 hw dX7_walkLeaf_277 ?_
        refine lv_iconst (v := 4) hx hb dX7_walkLeaf_280 (by decide) ?_
        refine lv_iload hx hb dX7_walkLeaf_281 (lv_at hl 6 rfl) ?_
        refine lv_imul hx hb dX7_walkLeaf_283 ?_
        refine lv_iload hx hb dX7_walkLeaf_284 (lv_at hl 7 rfl) ?_
        refine lv_iadd hx hb dX7_walkLeaf_286 ?_
        refine ld_M_nexts C0 hw h.1 dX7_walkLeaf_287 ?_
        have h := h.2
        refine lv_imul hx hb dX7_walkLeaf_288 ?_
        refine lv_iload hx hb dX7_walkLeaf_289 (lv_at hl 5 rfl) ?_
        refine lv_iadd hx hb dX7_walkLeaf_291 ?_
        refine lv_aload_n hx hb dX7_walkLeaf_292 rfl (lv_at hl 0 rfl) ?_
        refine gf_X7_nexts C0 hw dX7_walkLeaf_293 ?_
        refine lv_iconst (v := 4) hx hb dX7_walkLeaf_296 (by decide) ?_
        refine lv_iload hx hb dX7_walkLeaf_297 (lv_at hl 6 rfl) ?_
        refine lv_imul hx hb dX7_walkLeaf_299 ?_
        refine lv_iload hx hb dX7_walkLeaf_300 (lv_at hl 7 rfl) ?_
        refine lv_iadd hx hb dX7_walkLeaf_302 ?_
        refine ld_M_nexts C0 hw h.1 dX7_walkLeaf_303 ?_
        have h := h.2
        refine clVV (As := [.ref (ad 11), .int (((64 : Int32) * (gM_nexts S (((4 : Int32) * x6) + x7).toNatClampNeg)) + x5), .int (gM_nexts S (((4 : Int32) * x6) + x7).toNatClampNeg)]) (rest := []) (ci := 6) (k := 0) C0 (m_X7_come_had l D ad cI cJ cZ S (((64 : Int32) * (gM_nexts S (((4 : Int32) * x6) + x7).toNatClampNeg)) + x5) (gM_nexts S (((4 : Int32) * x6) + x7).toNatClampNeg) _ h) cal_X7_come kw_328 kw_327 kw_326 rfl rfl rfl rfl hl.1 rfl (Nat.le_of_ble_eq_true rfl) ⟨Nat.le_of_ble_eq_true rfl, Nat.le_of_ble_eq_true rfl⟩ rfl rfl dX7_walkLeaf_304 hw (fun S304 H locs h hw => ?_)
        replace h := h
        replace hl := lv_sub hl [0, 1, 2, 3, 4, 5, 6, 7] rfl
        exact mb_X7_walkLeaf_had_307 C0 _ ih x1 x2 x3 x5 x6 x7 S304 _ _ ls h hw hl
set_option maxHeartbeats 4000000 in
set_option maxRecDepth 100000 in
theorem mb_X7_walkLeaf_had_246 {p : Program} {l : Launch} {e : Env} {s : State} {m : MethodId} {args : Array Value} {below : List Frame} {meth : Method} {c : Code} {D : va_G} {ad : Nat → Nat} {cI cJ cZ : ClassId} {A : Nat → Prop} {post : MS → Prop} (C0 : Cx p s m args meth c cX7_walkLeaf 8 RX7 none D cI cJ cZ A) (K186 : Int32 → Int32 → Int32 → Int32 → MS → Prop) (hK186 : ∀ (x1 : Int32) (x2 : Int32) (x3 : Int32) (x5 : Int32) (S : MS) (H : Heap) (locs : List Loc) (ls : Array Slot), K186 x1 x2 x3 x5 S → Wd (WM ad cI cJ cZ) D A s.heap H locs S → lv_has ls 8 [(0, .ref (ad 0)), (1, .int x1), (2, .int x2), (3, .int x3), (4, .ref (ad 11)), (5, .int x5)] → W p l e rm_X7_walkLeaf_had s m args below meth c H locs 0 0 (QV (WM ad cI cJ cZ) D A s args below post) (F0 m 186 ls [])) :
 ∀ (x1 : Int32) (x2 : Int32) (x3 : Int32) (x5 : Int32) (x6 : Int32) (S : MS) (H : Heap) (locs : List Loc) (ls : Array Slot), wp_X7_walkLeaf_had_246 K186 post x1 x2 x3 x5 x6 S → Wd (WM ad cI cJ cZ) D A s.heap H locs S → lv_has ls 8 [(0, .ref (ad 0)), (1, .int x1), (2, .int x2), (3, .int x3), (4, .ref (ad 11)), (5, .int x5), (6, .int x6)] → W p l e rm_X7_walkLeaf_had s m args below meth c H locs 0 0 (QV (WM ad cI cJ cZ) D A s args below post) (F0 m 246 ls []) := by
  have hx := C0.1
  have hb := C0.2.1
  intro x1 x2 x3 x5 x6 S H locs ls h hw hl
  unfold wp_X7_walkLeaf_had_246 at h
  refine lv_iconst (v := 0) hx hb dX7_walkLeaf_246 (by decide) ?_
  refine lv_istore (lv' := [(7, .int (0 : Int32)), (0, .ref (ad 0)), (1, .int x1), (2, .int x2), (3, .int x3), (4, .ref (ad 11)), (5, .int x5), (6, .int x6)]) hx hb dX7_walkLeaf_247 hl (by decide) rfl (fun ls hl => ?_)
  replace hl := lv_sub hl [1, 2, 3, 4, 5, 6, 7, 0] rfl
  obtain ⟨n, h⟩ := h
  exact mb_X7_walkLeaf_had_249 C0 _ hK186 n x1 x2 x3 x5 x6 (0 : Int32) S _ _ ls h hw hl
set_option maxHeartbeats 4000000 in
set_option maxRecDepth 100000 in
theorem mb_X7_walkLeaf_had_186 {p : Program} {l : Launch} {e : Env} {s : State} {m : MethodId} {args : Array Value} {below : List Frame} {meth : Method} {c : Code} {D : va_G} {ad : Nat → Nat} {cI cJ cZ : ClassId} {A : Nat → Prop} {post : MS → Prop} (C0 : Cx p s m args meth c cX7_walkLeaf 8 RX7 none D cI cJ cZ A) :
 ∀ (n : Nat) (x1 : Int32) (x2 : Int32) (x3 : Int32) (x5 : Int32) (S : MS) (H : Heap) (locs : List Loc) (ls : Array Slot), wp_X7_walkLeaf_had_186 post n x1 x2 x3 x5 S → Wd (WM ad cI cJ cZ) D A s.heap H locs S → lv_has ls 8 [(0, .ref (ad 0)), (1, .int x1), (2, .int x2), (3, .int x3), (4, .ref (ad 11)), (5, .int x5)] → W p l e rm_X7_walkLeaf_had s m args below meth c H locs 0 0 (QV (WM ad cI cJ cZ) D A s args below post) (F0 m 186 ls []) := by
  have hx := C0.1
  have hb := C0.2.1
  intro n
  induction n with
  | zero => intro x1 x2 x3 x5 S H locs ls h; exact h.elim
  | succ n ih =>
    intro x1 x2 x3 x5 S H locs ls h hw hl
    replace h : ws_X7_walkLeaf_had_186 (wp_X7_walkLeaf_had_186  post n)  post x1 x2 x3 x5 S := h
    unfold ws_X7_walkLeaf_had_186 at h
    refine lv_aload_n hx hb dX7_walkLeaf_186 rfl (lv_at hl 0 rfl) ?_
    refine gf_X7_piled C0 hw dX7_walkLeaf_187 ?_
    refine lv_if_le (tgt := 316) hx hb dX7_walkLeaf_190 (by decide) (fun c190 => ?_) (fun c190 => ?_)
    · have h := h.1 c190
      exact rtV C0 hw h dX7_walkLeaf_316
    · have h := h.2 c190
      refine lv_aload_n hx hb dX7_walkLeaf_193 rfl (lv_at hl 0 rfl) ?_
      refine lv_dup hx hb dX7_walkLeaf_194 rfl ?_
      refine gf_X7_piled C0 hw dX7_walkLeaf_195 ?_
      refine lv_iconst (v := 1) hx hb dX7_walkLeaf_198 (by decide) ?_
      refine lv_isub hx hb dX7_walkLeaf_199 ?_
      refine pf_X7_piled C0 hw dX7_walkLeaf_200 (fun H locs hw => ?_)
      obtain ⟨S_1, eS_1⟩ : ∃ z, z = sM_piled S ((gM_piled S) - (1 : Int32)) := ⟨_, rfl⟩
      rw [← eS_1] at hw
      have h := h S_1 eS_1
      refine lv_aload_n hx hb dX7_walkLeaf_203 rfl (lv_at hl 0 rfl) ?_
      refine gf_X7_pile C0 hw dX7_walkLeaf_204 ?_
      refine lv_aload_n hx hb dX7_walkLeaf_207 rfl (lv_at hl 0 rfl) ?_
      refine gf_X7_piled C0 hw dX7_walkLeaf_208 ?_
      refine ld_M_pile C0 hw h.1 dX7_walkLeaf_211 ?_
      have h := h.2
      refine lv_topi (fun x6_2 ex6_2 => ?_)
      have h := h x6_2 ex6_2
      refine lv_istore (lv' := [(6, .int x6_2), (0, .ref (ad 0)), (1, .int x1), (2, .int x2), (3, .int x3), (4, .ref (ad 11)), (5, .int x5)]) hx hb dX7_walkLeaf_212 hl (by decide) rfl (fun ls hl => ?_)
      refine lv_iload_n hx hb dX7_walkLeaf_214 rfl (lv_at hl 4 rfl) ?_
      refine lv_if_eq (tgt := 232) hx hb dX7_walkLeaf_215 (by decide) (fun c215 => ?_) (fun c215 => ?_)
      · have h := h.1 c215
        refine lv_aload_n hx hb dX7_walkLeaf_232 rfl (lv_at hl 1 rfl) ?_
        refine lv_iload hx hb dX7_walkLeaf_233 (lv_at hl 0 rfl) ?_
        refine lv_iload_n hx hb dX7_walkLeaf_235 rfl (lv_at hl 2 rfl) ?_
        refine lv_iload_n hx hb dX7_walkLeaf_236 rfl (lv_at hl 3 rfl) ?_
        refine clVI (As := [.int x6_2, .int x1, .int x2]) (rest := []) (ci := 6) (k := 0) C0 (m_X7_gives l D ad cI cJ cZ S_1 x6_2 x1 x2 _ h) cal_X7_gives kw_334 kw_333 kw_332 rfl rfl rfl rfl hl.1 rfl (Nat.le_of_ble_eq_true rfl) ⟨Nat.le_of_ble_eq_true rfl, Nat.le_of_ble_eq_true rfl⟩ rfl rfl dX7_walkLeaf_237 hw (fun r237 S237 H locs h hw => ?_)
        replace h := h
        refine lv_if_eq (tgt := 246) hx hb dX7_walkLeaf_240 (by decide) (fun c240 => ?_) (fun c240 => ?_)
        · have h := h.1 c240
          replace hl := lv_sub hl [1, 2, 3, 4, 5, 6, 0] rfl
          exact mb_X7_walkLeaf_had_246 C0 _ ih x1 x2 x3 x5 x6_2 S237 _ _ ls h hw hl
        · have h := h.2 c240
          refine lv_goto (tgt := 186) hx hb dX7_walkLeaf_243 (by decide) ?_
          replace hl := lv_sub hl [1, 2, 3, 4, 5, 6] rfl
          exact ih x1 x2 x3 x5 S237 _ _ _ h hw hl
      · have h := h.2 c215
        refine lv_aload_n hx hb dX7_walkLeaf_218 rfl (lv_at hl 1 rfl) ?_
        refine lv_iload hx hb dX7_walkLeaf_219 (lv_at hl 0 rfl) ?_
        refine lv_iload_n hx hb dX7_walkLeaf_221 rfl (lv_at hl 2 rfl) ?_
        refine lv_iload_n hx hb dX7_walkLeaf_222 rfl (lv_at hl 3 rfl) ?_
        refine clVI (As := [.int x6_2, .int x1, .int x2]) (rest := []) (ci := 6) (k := 0) C0 (m_X7_takes l D ad cI cJ cZ S_1 x6_2 x1 x2 _ h) cal_X7_takes kw_337 kw_336 kw_335 rfl rfl rfl rfl hl.1 rfl (Nat.le_of_ble_eq_true rfl) ⟨Nat.le_of_ble_eq_true rfl, Nat.le_of_ble_eq_true rfl⟩ rfl rfl dX7_walkLeaf_223 hw (fun r223 S223 H locs h hw => ?_)
        replace h := h
        refine lv_if_eq (tgt := 246) hx hb dX7_walkLeaf_226 (by decide) (fun c226 => ?_) (fun c226 => ?_)
        · have h := h.1 c226
          replace hl := lv_sub hl [1, 2, 3, 4, 5, 6, 0] rfl
          exact mb_X7_walkLeaf_had_246 C0 _ ih x1 x2 x3 x5 x6_2 S223 _ _ ls h hw hl
        · have h := h.2 c226
          refine lv_goto (tgt := 186) hx hb dX7_walkLeaf_229 (by decide) ?_
          replace hl := lv_sub hl [1, 2, 3, 4, 5, 6] rfl
          exact ih x1 x2 x3 x5 S223 _ _ _ h hw hl
set_option maxHeartbeats 4000000 in
set_option maxRecDepth 100000 in
theorem mb_X7_walkLeaf_had_63 {p : Program} {l : Launch} {e : Env} {s : State} {m : MethodId} {args : Array Value} {below : List Frame} {meth : Method} {c : Code} {D : va_G} {ad : Nat → Nat} {cI cJ cZ : ClassId} {A : Nat → Prop} {post : MS → Prop} (C0 : Cx p s m args meth c cX7_walkLeaf 8 RX7 none D cI cJ cZ A) :
 ∀ (n : Nat) (x1 : Int32) (x2 : Int32) (x3 : Int32) (x5 : Int32) (x6 : Int32) (S : MS) (H : Heap) (locs : List Loc) (ls : Array Slot), wp_X7_walkLeaf_had_63 post n x1 x2 x3 x5 x6 S → Wd (WM ad cI cJ cZ) D A s.heap H locs S → lv_has ls 8 [(0, .ref (ad 0)), (1, .int x1), (2, .int x2), (3, .int x3), (4, .ref (ad 11)), (5, .int x5), (6, .int x6)] → W p l e rm_X7_walkLeaf_had s m args below meth c H locs 0 0 (QV (WM ad cI cJ cZ) D A s args below post) (F0 m 63 ls []) := by
  have hx := C0.1
  have hb := C0.2.1
  intro n
  induction n with
  | zero => intro x1 x2 x3 x5 x6 S H locs ls h; exact h.elim
  | succ n ih =>
    intro x1 x2 x3 x5 x6 S H locs ls h hw hl
    replace h : ws_X7_walkLeaf_had_63 (wp_X7_walkLeaf_had_63  post n)  post x1 x2 x3 x5 x6 S := h
    unfold ws_X7_walkLeaf_had_63 at h
    refine lv_iload hx hb dX7_walkLeaf_63 (lv_at hl 6 rfl) ?_
    refine lv_sipush (v := 150) hx hb dX7_walkLeaf_65 (by decide) ?_
    refine lv_icmp_ge (tgt := 186) hx hb dX7_walkLeaf_68 (by decide) (fun c68 => ?_) (fun c68 => ?_)
    · have h := h.1 c68
      replace hl := lv_sub hl [0, 1, 2, 3, 4, 5] rfl
      obtain ⟨n, h⟩ := h
      exact mb_X7_walkLeaf_had_186 C0 n x1 x2 x3 x5 S _ _ ls h hw hl
    · have h := h.2 c68
      refine lv_aload_n hx hb dX7_walkLeaf_71 rfl (lv_at hl 0 rfl) ?_
      refine gf_X7_come C0 hw dX7_walkLeaf_72 ?_
      refine lv_iload hx hb dX7_walkLeaf_75 (lv_at hl 6 rfl) ?_
      refine ld_M_come C0 hw h.1 dX7_walkLeaf_77 ?_
      have h := h.2
      refine lv_if_eq (tgt := 180) hx hb dX7_walkLeaf_78 (by decide) (fun c78 => ?_) (fun c78 => ?_)
      · have h := h.1 c78
        replace hl := lv_sub hl [0, 1, 2, 3, 4, 5, 6] rfl
        exact mb_X7_walkLeaf_had_180 C0 _ ih x1 x2 x3 x5 x6 S _ _ ls h hw hl
      · have h := h.2 c78
        refine lv_iload_n hx hb dX7_walkLeaf_81 rfl (lv_at hl 3 rfl) ?_
        refine lv_if_eq (tgt := 99) hx hb dX7_walkLeaf_82 (by decide) (fun c82 => ?_) (fun c82 => ?_)
        · have h := h.1 c82
          refine lv_aload_n hx hb dX7_walkLeaf_99 rfl (lv_at hl 0 rfl) ?_
          refine lv_iload hx hb dX7_walkLeaf_100 (lv_at hl 6 rfl) ?_
          refine lv_iload_n hx hb dX7_walkLeaf_102 rfl (lv_at hl 1 rfl) ?_
          refine lv_iload_n hx hb dX7_walkLeaf_103 rfl (lv_at hl 2 rfl) ?_
          refine clVI (As := [.int x6, .int x1, .int x2]) (rest := []) (ci := 6) (k := 0) C0 (m_X7_takes l D ad cI cJ cZ S x6 x1 x2 _ h) cal_X7_takes kw_337 kw_336 kw_335 rfl rfl rfl rfl hl.1 rfl (Nat.le_of_ble_eq_true rfl) ⟨Nat.le_of_ble_eq_true rfl, Nat.le_of_ble_eq_true rfl⟩ rfl rfl dX7_walkLeaf_104 hw (fun r104 S104 H locs h hw => ?_)
          replace h := h
          refine lv_if_ne (tgt := 113) hx hb dX7_walkLeaf_107 (by decide) (fun c107 => ?_) (fun c107 => ?_)
          · have h := h.1 c107
            replace hl := lv_sub hl [0, 1, 2, 3, 4, 5, 6] rfl
            exact mb_X7_walkLeaf_had_113 C0 _ (fun x1 x2 x3 x5 x6 S H locs ls h hw hl => mb_X7_walkLeaf_had_180 C0 _ ih x1 x2 x3 x5 x6 S _ _ ls h hw hl) x1 x2 x3 x5 x6 S104 _ _ ls h hw hl
          · have h := h.2 c107
            refine lv_goto (tgt := 180) hx hb dX7_walkLeaf_110 (by decide) ?_
            replace hl := lv_sub hl [0, 1, 2, 3, 4, 5, 6] rfl
            exact mb_X7_walkLeaf_had_180 C0 _ ih x1 x2 x3 x5 x6 S104 _ _ ls h hw hl
        · have h := h.2 c82
          refine lv_aload_n hx hb dX7_walkLeaf_85 rfl (lv_at hl 0 rfl) ?_
          refine lv_iload hx hb dX7_walkLeaf_86 (lv_at hl 6 rfl) ?_
          refine lv_iload_n hx hb dX7_walkLeaf_88 rfl (lv_at hl 1 rfl) ?_
          refine lv_iload_n hx hb dX7_walkLeaf_89 rfl (lv_at hl 2 rfl) ?_
          refine clVI (As := [.int x6, .int x1, .int x2]) (rest := []) (ci := 6) (k := 0) C0 (m_X7_gives l D ad cI cJ cZ S x6 x1 x2 _ h) cal_X7_gives kw_334 kw_333 kw_332 rfl rfl rfl rfl hl.1 rfl (Nat.le_of_ble_eq_true rfl) ⟨Nat.le_of_ble_eq_true rfl, Nat.le_of_ble_eq_true rfl⟩ rfl rfl dX7_walkLeaf_90 hw (fun r90 S90 H locs h hw => ?_)
          replace h := h
          refine lv_if_eq (tgt := 180) hx hb dX7_walkLeaf_93 (by decide) (fun c93 => ?_) (fun c93 => ?_)
          · have h := h.1 c93
            replace hl := lv_sub hl [0, 1, 2, 3, 4, 5, 6] rfl
            exact mb_X7_walkLeaf_had_180 C0 _ ih x1 x2 x3 x5 x6 S90 _ _ ls h hw hl
          · have h := h.2 c93
            refine lv_goto (tgt := 113) hx hb dX7_walkLeaf_96 (by decide) ?_
            replace hl := lv_sub hl [0, 1, 2, 3, 4, 5, 6] rfl
            exact mb_X7_walkLeaf_had_113 C0 _ (fun x1 x2 x3 x5 x6 S H locs ls h hw hl => mb_X7_walkLeaf_had_180 C0 _ ih x1 x2 x3 x5 x6 S _ _ ls h hw hl) x1 x2 x3 x5 x6 S90 _ _ ls h hw hl
set_option maxHeartbeats 4000000 in
set_option maxRecDepth 100000 in
theorem mb_X7_walkLeaf_had_60 {p : Program} {l : Launch} {e : Env} {s : State} {m : MethodId} {args : Array Value} {below : List Frame} {meth : Method} {c : Code} {D : va_G} {ad : Nat → Nat} {cI cJ cZ : ClassId} {A : Nat → Prop} {post : MS → Prop} (C0 : Cx p s m args meth c cX7_walkLeaf 8 RX7 none D cI cJ cZ A) :
 ∀ (x1 : Int32) (x2 : Int32) (x3 : Int32) (x5 : Int32) (S : MS) (H : Heap) (locs : List Loc) (ls : Array Slot), wp_X7_walkLeaf_had_60 post x1 x2 x3 x5 S → Wd (WM ad cI cJ cZ) D A s.heap H locs S → lv_has ls 8 [(0, .ref (ad 0)), (1, .int x1), (2, .int x2), (3, .int x3), (4, .ref (ad 11)), (5, .int x5)] → W p l e rm_X7_walkLeaf_had s m args below meth c H locs 0 0 (QV (WM ad cI cJ cZ) D A s args below post) (F0 m 60 ls []) := by
  have hx := C0.1
  have hb := C0.2.1
  intro x1 x2 x3 x5 S H locs ls h hw hl
  unfold wp_X7_walkLeaf_had_60 at h
  refine lv_iconst (v := 0) hx hb dX7_walkLeaf_60 (by decide) ?_
  refine lv_istore (lv' := [(6, .int (0 : Int32)), (0, .ref (ad 0)), (1, .int x1), (2, .int x2), (3, .int x3), (4, .ref (ad 11)), (5, .int x5)]) hx hb dX7_walkLeaf_61 hl (by decide) rfl (fun ls hl => ?_)
  replace hl := lv_sub hl [1, 2, 3, 4, 5, 6, 0] rfl
  obtain ⟨n, h⟩ := h
  exact mb_X7_walkLeaf_had_63 C0 n x1 x2 x3 x5 (0 : Int32) S _ _ ls h hw hl
set_option maxHeartbeats 4000000 in
set_option maxRecDepth 100000 in
theorem mb_X7_walkLeaf_had_10 {p : Program} {l : Launch} {e : Env} {s : State} {m : MethodId} {args : Array Value} {below : List Frame} {meth : Method} {c : Code} {D : va_G} {ad : Nat → Nat} {cI cJ cZ : ClassId} {A : Nat → Prop} {post : MS → Prop} (C0 : Cx p s m args meth c cX7_walkLeaf 8 RX7 none D cI cJ cZ A) :
 ∀ (n : Nat) (x1 : Int32) (x2 : Int32) (x3 : Int32) (x5 : Int32) (x6 : Int32) (S : MS) (H : Heap) (locs : List Loc) (ls : Array Slot), wp_X7_walkLeaf_had_10 post n x1 x2 x3 x5 x6 S → Wd (WM ad cI cJ cZ) D A s.heap H locs S → lv_has ls 8 [(0, .ref (ad 0)), (1, .int x1), (2, .int x2), (3, .int x3), (4, .ref (ad 11)), (5, .int x5), (6, .int x6)] → W p l e rm_X7_walkLeaf_had s m args below meth c H locs 0 0 (QV (WM ad cI cJ cZ) D A s args below post) (F0 m 10 ls []) := by
  have hx := C0.1
  have hb := C0.2.1
  intro n
  induction n with
  | zero => intro x1 x2 x3 x5 x6 S H locs ls h; exact h.elim
  | succ n ih =>
    intro x1 x2 x3 x5 x6 S H locs ls h hw hl
    replace h : ws_X7_walkLeaf_had_10 (wp_X7_walkLeaf_had_10  post n)  post x1 x2 x3 x5 x6 S := h
    unfold ws_X7_walkLeaf_had_10 at h
    refine lv_iload hx hb dX7_walkLeaf_10 (lv_at hl 6 rfl) ?_
    refine lv_sipush (v := 150) hx hb dX7_walkLeaf_12 (by decide) ?_
    refine lv_icmp_ge (tgt := 36) hx hb dX7_walkLeaf_15 (by decide) (fun c15 => ?_) (fun c15 => ?_)
    · have h := h.1 c15
      refine lv_aload_n hx hb dX7_walkLeaf_36 rfl (lv_at hl 0 rfl) ?_
      refine lv_iconst (v := 0) hx hb dX7_walkLeaf_37 (by decide) ?_
      refine pf_X7_piled C0 hw dX7_walkLeaf_38 (fun H locs hw => ?_)
      obtain ⟨S_1, eS_1⟩ : ∃ z, z = sM_piled S (0 : Int32) := ⟨_, rfl⟩
      rw [← eS_1] at hw
      have h := h S_1 eS_1
      refine lv_aload_n hx hb dX7_walkLeaf_41 rfl (lv_at hl 0 rfl) ?_
      refine gf_X7_atFirst C0 hw dX7_walkLeaf_42 ?_
      refine lv_iload_n hx hb dX7_walkLeaf_45 rfl (lv_at hl 1 rfl) ?_
      refine ld_M_atF C0 hw h.1 dX7_walkLeaf_46 ?_
      have h := h.2
      refine lv_iload_n hx hb dX7_walkLeaf_47 rfl (lv_at hl 3 rfl) ?_
      refine lv_icmp_ne (tgt := 60) hx hb dX7_walkLeaf_48 (by decide) (fun c48 => ?_) (fun c48 => ?_)
      · have h := h.1 c48
        replace hl := lv_sub hl [0, 1, 2, 3, 4, 5] rfl
        exact mb_X7_walkLeaf_had_60 C0 x1 x2 x3 x5 S_1 _ _ ls h hw hl
      · have h := h.2 c48
        refine lv_aload_n hx hb dX7_walkLeaf_51 rfl (lv_at hl 0 rfl) ?_
        refine lv_aload hx hb dX7_walkLeaf_52 (lv_at hl 4 rfl) ?_
        refine lv_iload hx hb dX7_walkLeaf_54 (lv_at hl 5 rfl) ?_
        refine lv_iconst (v := 0) hx hb dX7_walkLeaf_56 (by decide) ?_
        refine clVV (As := [.ref (ad 11), .int x5, .int (0 : Int32)]) (rest := []) (ci := 6) (k := 0) C0 (m_X7_come_had l D ad cI cJ cZ S_1 x5 (0 : Int32) _ h) cal_X7_come kw_328 kw_327 kw_326 rfl rfl rfl rfl hl.1 rfl (Nat.le_of_ble_eq_true rfl) ⟨Nat.le_of_ble_eq_true rfl, Nat.le_of_ble_eq_true rfl⟩ rfl rfl dX7_walkLeaf_57 hw (fun S57 H locs h hw => ?_)
        replace h := h
        replace hl := lv_sub hl [0, 1, 2, 3, 4, 5] rfl
        exact mb_X7_walkLeaf_had_60 C0 x1 x2 x3 x5 S57 _ _ ls h hw hl
    · have h := h.2 c15
      refine lv_aload hx hb dX7_walkLeaf_18 (lv_at hl 4 rfl) ?_
      refine lv_bipush (v := 64) hx hb dX7_walkLeaf_20 (by decide) ?_
      refine lv_iload hx hb dX7_walkLeaf_22 (lv_at hl 6 rfl) ?_
      refine lv_imul hx hb dX7_walkLeaf_24 ?_
      refine lv_iload hx hb dX7_walkLeaf_25 (lv_at hl 5 rfl) ?_
      refine lv_iadd hx hb dX7_walkLeaf_27 ?_
      refine lv_iconst (v := 0) hx hb dX7_walkLeaf_28 (by decide) ?_
      refine st_M_had C0 hw h.1 dX7_walkLeaf_29 (fun H locs hw => ?_)
      have h := h.2
      obtain ⟨S_2, eS_2⟩ : ∃ z, z = sM_had S (upd (gM_had S) (((64 : Int32) * x6) + x5).toNatClampNeg (vp_nar .boolean (0 : Int32))) := ⟨_, rfl⟩
      rw [← eS_2] at hw
      have h := h S_2 eS_2
      obtain ⟨x6_3, ex6_3⟩ : ∃ y : Int32, y = x6 + (1 : Int32) := ⟨_, rfl⟩
      refine lv_iinc (v := x6_3) (lv' := [(6, .int x6_3), (0, .ref (ad 0)), (1, .int x1), (2, .int x2), (3, .int x3), (4, .ref (ad 11)), (5, .int x5)]) hx hb dX7_walkLeaf_30 hl (k := 6) rfl (by rw [ex6_3]; rfl) (by decide) rfl (fun ls hl => ?_)
      have h := h x6_3 ex6_3
      refine lv_goto (tgt := 10) hx hb dX7_walkLeaf_33 (by decide) ?_
      replace hl := lv_sub hl [1, 2, 3, 4, 5, 6, 0] rfl
      exact ih x1 x2 x3 x5 x6_3 S_2 _ _ _ h hw hl
set_option maxHeartbeats 4000000 in
set_option maxRecDepth 100000 in
theorem m_X7_walkLeaf_had (l : Launch) (D : va_G) (ad : Nat → Nat) (cI cJ cZ : ClassId) (S : MS) (x1 : Int32) (x2 : Int32) (x3 : Int32) (post : MS → Prop) (h : wp_X7_walkLeaf_had S x1 x2 x3 post) : CV (WM ad cI cJ cZ) D cI cJ cZ l yX7_walkLeaf (.code yX7_walkLeaf cX7_walkLeaf 8 none :: gt) rm_X7_walkLeaf_had S [.ref (ad 0), .int x1, .int x2, .int x3, .ref (ad 11)] post := by
  refine enV (by decide) (Nat.le_of_ble_eq_true rfl) ?_
  intro p e s m below meth c A ls C0 hw hl
  have C0 : Cx p s m _ meth c cX7_walkLeaf 8 RX7 none D cI cJ cZ A := C0
  have hl : lv_has ls 8 [(0, .ref (ad 0)), (1, .int x1), (2, .int x2), (3, .int x3), (4, .ref (ad 11))] := hl
  have hx := C0.1
  have hb := C0.2.1
  unfold wp_X7_walkLeaf_had at h
  refine lv_iconst (v := 4) hx hb dX7_walkLeaf_0 (by decide) ?_
  refine lv_iload_n hx hb dX7_walkLeaf_1 rfl (lv_at hl 1 rfl) ?_
  refine lv_imul hx hb dX7_walkLeaf_2 ?_
  refine lv_iload_n hx hb dX7_walkLeaf_3 rfl (lv_at hl 2 rfl) ?_
  refine lv_iadd hx hb dX7_walkLeaf_4 ?_
  refine lv_topi (fun x5_1 ex5_1 => ?_)
  have h := h x5_1 ex5_1
  refine lv_istore (lv' := [(5, .int x5_1), (0, .ref (ad 0)), (1, .int x1), (2, .int x2), (3, .int x3), (4, .ref (ad 11))]) hx hb dX7_walkLeaf_5 hl (by decide) rfl (fun ls hl => ?_)
  refine lv_iconst (v := 0) hx hb dX7_walkLeaf_7 (by decide) ?_
  refine lv_istore (lv' := [(6, .int (0 : Int32)), (5, .int x5_1), (0, .ref (ad 0)), (1, .int x1), (2, .int x2), (3, .int x3), (4, .ref (ad 11))]) hx hb dX7_walkLeaf_8 hl (by decide) rfl (fun ls hl => ?_)
  replace hl := lv_sub hl [2, 3, 4, 5, 6, 1, 0] rfl
  obtain ⟨n, h⟩ := h
  exact mb_X7_walkLeaf_had_10 C0 n x1 x2 x3 x5_1 (0 : Int32) S _ _ ls h hw hl
abbrev rm_X7_come_seen : Room := { frames := 0, cells := 0, slots := 0, locals := 0 }
set_option maxHeartbeats 4000000 in
set_option maxRecDepth 100000 in
theorem m_X7_come_seen (l : Launch) (D : va_G) (ad : Nat → Nat) (cI cJ cZ : ClassId) (S : MS) (x2 : Int32) (x3 : Int32) (post : MS → Prop) (h : wp_X7_come_seen S x2 x3 post) : CV (WM ad cI cJ cZ) D cI cJ cZ l yX7_come (.code yX7_come cX7_come 4 none :: gt) rm_X7_come_seen S [.ref (ad 0), .ref (ad 17), .int x2, .int x3] post := by
  refine enV (by decide) (Nat.le_of_ble_eq_true rfl) ?_
  intro p e s m below meth c A ls C0 hw hl
  have C0 : Cx p s m _ meth c cX7_come 4 RX7 none D cI cJ cZ A := C0
  have hl : lv_has ls 4 [(0, .ref (ad 0)), (1, .ref (ad 17)), (2, .int x2), (3, .int x3)] := hl
  have hx := C0.1
  have hb := C0.2.1
  unfold wp_X7_come_seen at h
  refine lv_aload_n hx hb dX7_come_0 rfl (lv_at hl 1 rfl) ?_
  refine lv_iload_n hx hb dX7_come_1 rfl (lv_at hl 2 rfl) ?_
  refine ld_M_seen C0 hw h.1 dX7_come_2 ?_
  have h := h.2
  refine lv_if_eq (tgt := 7) hx hb dX7_come_3 (by decide) (fun c3 => ?_) (fun c3 => ?_)
  · have h := h.1 c3
    refine lv_aload_n hx hb dX7_come_7 rfl (lv_at hl 1 rfl) ?_
    refine lv_iload_n hx hb dX7_come_8 rfl (lv_at hl 2 rfl) ?_
    refine lv_iconst (v := 1) hx hb dX7_come_9 (by decide) ?_
    refine st_M_seen C0 hw h.1 dX7_come_10 (fun H locs hw => ?_)
    have h := h.2
    obtain ⟨S_1, eS_1⟩ : ∃ z, z = sM_seen S (upd (gM_seen S) (x2).toNatClampNeg (vp_nar .boolean (1 : Int32))) := ⟨_, rfl⟩
    rw [← eS_1] at hw
    have h := h S_1 eS_1
    refine lv_aload_n hx hb dX7_come_11 rfl (lv_at hl 0 rfl) ?_
    refine gf_X7_pile C0 hw dX7_come_12 ?_
    refine lv_aload_n hx hb dX7_come_15 rfl (lv_at hl 0 rfl) ?_
    refine gf_X7_piled C0 hw dX7_come_16 ?_
    refine lv_iload_n hx hb dX7_come_19 rfl (lv_at hl 3 rfl) ?_
    refine st_M_pile C0 hw h.1 dX7_come_20 (fun H locs hw => ?_)
    have h := h.2
    obtain ⟨S_2, eS_2⟩ : ∃ z, z = sM_pile S_1 (upd (gM_pile S_1) (gM_piled S_1).toNatClampNeg x3) := ⟨_, rfl⟩
    rw [← eS_2] at hw
    have h := h S_2 eS_2
    refine lv_aload_n hx hb dX7_come_21 rfl (lv_at hl 0 rfl) ?_
    refine lv_dup hx hb dX7_come_22 rfl ?_
    refine gf_X7_piled C0 hw dX7_come_23 ?_
    refine lv_iconst (v := 1) hx hb dX7_come_26 (by decide) ?_
    refine lv_iadd hx hb dX7_come_27 ?_
    refine pf_X7_piled C0 hw dX7_come_28 (fun H locs hw => ?_)
    obtain ⟨S_3, eS_3⟩ : ∃ z, z = sM_piled S_2 ((gM_piled S_2) + (1 : Int32)) := ⟨_, rfl⟩
    rw [← eS_3] at hw
    have h := h S_3 eS_3
    exact rtV C0 hw h dX7_come_31
  · have h := h.2 c3
    exact rtV C0 hw h dX7_come_6
abbrev rm_X7_wants : Room := { frames := 1, cells := 0, slots := 0, locals := 22 }
set_option maxHeartbeats 4000000 in
set_option maxRecDepth 100000 in
theorem mb_X7_wants_56 {p : Program} {l : Launch} {e : Env} {s : State} {m : MethodId} {args : Array Value} {below : List Frame} {meth : Method} {c : Code} {D : va_G} {ad : Nat → Nat} {cI cJ cZ : ClassId} {A : Nat → Prop} {post : Int32 → MS → Prop} (C0 : Cx p s m args meth c cX7_wants 4 RX7 (some .boolean) D cI cJ cZ A) :
 ∀ (x1 : Int32) (x2 : Int32) (S : MS) (H : Heap) (locs : List Loc) (ls : Array Slot), wp_X7_wants_56 post x1 x2 S → Wd (WM ad cI cJ cZ) D A s.heap H locs S → lv_has ls 4 [(0, .ref (ad 0)), (1, .int x1), (2, .int x2)] → W p l e rm_X7_wants s m args below meth c H locs 0 0 (QI (WM ad cI cJ cZ) D A s args below post) (F0 m 56 ls []) := by
  have hx := C0.1
  have hb := C0.2.1
  intro x1 x2 S H locs ls h hw hl
  unfold wp_X7_wants_56 at h
  refine lv_aload_n hx hb dX7_wants_56 rfl (lv_at hl 0 rfl) ?_
  refine lv_iload_n hx hb dX7_wants_57 rfl (lv_at hl 1 rfl) ?_
  refine lv_iload_n hx hb dX7_wants_58 rfl (lv_at hl 2 rfl) ?_
  refine clVI (As := [.int x1, .int x2]) (rest := []) (ci := 6) (k := 0) C0 (m_X7_isLeafOf l D ad cI cJ cZ S x1 x2 _ h) cal_X7_isLeafOf kw_331 kw_330 kw_329 rfl rfl rfl rfl hl.1 rfl (Nat.le_of_ble_eq_true rfl) ⟨Nat.le_of_ble_eq_true rfl, Nat.le_of_ble_eq_true rfl⟩ rfl rfl dX7_wants_59 hw (fun r59 S59 H locs h hw => ?_)
  replace h := h
  exact rtZ C0 hw (isb_n h.1) h.2 dX7_wants_62
set_option maxHeartbeats 4000000 in
set_option maxRecDepth 100000 in
theorem m_X7_wants (l : Launch) (D : va_G) (ad : Nat → Nat) (cI cJ cZ : ClassId) (S : MS) (x1 : Int32) (x2 : Int32) (post : Int32 → MS → Prop) (h : wp_X7_wants S x1 x2 post) : CI (WM ad cI cJ cZ) D cI cJ cZ l yX7_wants (.code yX7_wants cX7_wants 4 (some .boolean) :: gt) rm_X7_wants S [.ref (ad 0), .int x1, .int x2] post := by
  refine enI (by decide) (Nat.le_of_ble_eq_true rfl) ?_
  intro p e s m below meth c A ls C0 hw hl
  have C0 : Cx p s m _ meth c cX7_wants 4 RX7 (some .boolean) D cI cJ cZ A := C0
  have hl : lv_has ls 4 [(0, .ref (ad 0)), (1, .int x1), (2, .int x2)] := hl
  have hx := C0.1
  have hb := C0.2.1
  unfold wp_X7_wants at h
  refine lv_aload_n hx hb dX7_wants_0 rfl (lv_at hl 0 rfl) ?_
  refine gf_X7_acts C0 hw dX7_wants_1 ?_
  refine lv_iload_n hx hb dX7_wants_4 rfl (lv_at hl 1 rfl) ?_
  refine ld_M_acts C0 hw h.1 dX7_wants_5 ?_
  have h := h.2
  refine lv_topi (fun x3_1 ex3_1 => ?_)
  have h := h x3_1 ex3_1
  refine lv_istore_n (lv' := [(3, .int x3_1), (0, .ref (ad 0)), (1, .int x1), (2, .int x2)]) hx hb dX7_wants_6 rfl hl (by decide) rfl (fun ls hl => ?_)
  refine lv_iload_n hx hb dX7_wants_7 rfl (lv_at hl 0 rfl) ?_
  refine lv_bipush (v := 8) hx hb dX7_wants_8 (by decide) ?_
  refine lv_icmp_ne (tgt := 15) hx hb dX7_wants_10 (by decide) (fun c10 => ?_) (fun c10 => ?_)
  · have h := h.1 c10
    refine lv_iload_n hx hb dX7_wants_15 rfl (lv_at hl 0 rfl) ?_
    refine lv_if_eq (tgt := 54) hx hb dX7_wants_16 (by decide) (fun c16 => ?_) (fun c16 => ?_)
    · have h := h.1 c16
      refine lv_iconst (v := 0) hx hb dX7_wants_54 (by decide) ?_
      exact rtZ C0 hw rfl h dX7_wants_55
    · have h := h.2 c16
      refine lv_iload_n hx hb dX7_wants_19 rfl (lv_at hl 0 rfl) ?_
      refine lv_iconst (v := 5) hx hb dX7_wants_20 (by decide) ?_
      refine lv_icmp_eq (tgt := 54) hx hb dX7_wants_21 (by decide) (fun c21 => ?_) (fun c21 => ?_)
      · have h := h.1 c21
        refine lv_iconst (v := 0) hx hb dX7_wants_54 (by decide) ?_
        exact rtZ C0 hw rfl h dX7_wants_55
      · have h := h.2 c21
        refine lv_iload_n hx hb dX7_wants_24 rfl (lv_at hl 0 rfl) ?_
        refine lv_bipush (v := 6) hx hb dX7_wants_25 (by decide) ?_
        refine lv_icmp_eq (tgt := 54) hx hb dX7_wants_27 (by decide) (fun c27 => ?_) (fun c27 => ?_)
        · have h := h.1 c27
          refine lv_iconst (v := 0) hx hb dX7_wants_54 (by decide) ?_
          exact rtZ C0 hw rfl h dX7_wants_55
        · have h := h.2 c27
          refine lv_iload_n hx hb dX7_wants_30 rfl (lv_at hl 0 rfl) ?_
          refine lv_iconst (v := 3) hx hb dX7_wants_31 (by decide) ?_
          refine lv_icmp_ne (tgt := 56) hx hb dX7_wants_32 (by decide) (fun c32 => ?_) (fun c32 => ?_)
          · have h := h.1 c32
            replace hl := lv_sub hl [1, 2, 3] rfl
            exact mb_X7_wants_56 C0 x1 x2 S _ _ ls h hw hl
          · have h := h.2 c32
            refine lv_aload_n hx hb dX7_wants_35 rfl (lv_at hl 1 rfl) ?_
            refine lv_aload_n hx hb dX7_wants_36 rfl (lv_at hl 1 rfl) ?_
            refine gf_X7_of C0 hw dX7_wants_37 ?_
            refine lv_iload_n hx hb dX7_wants_40 rfl (lv_at hl 2 rfl) ?_
            refine ld_M_of C0 hw h.1 dX7_wants_41 ?_
            have h := h.2
            refine lv_aload_n hx hb dX7_wants_42 rfl (lv_at hl 1 rfl) ?_
            refine gf_X7_path C0 hw dX7_wants_43 ?_
            refine lv_iload_n hx hb dX7_wants_46 rfl (lv_at hl 2 rfl) ?_
            refine ld_M_path C0 hw h.1 dX7_wants_47 ?_
            have h := h.2
            refine clVI (As := [.int (gM_of S (x1).toNatClampNeg), .int (gM_path S (x1).toNatClampNeg)]) (rest := []) (ci := 6) (k := 0) C0 (m_X7_isWithin l D ad cI cJ cZ S (gM_of S (x1).toNatClampNeg) (gM_path S (x1).toNatClampNeg) _ h) cal_X7_isWithin kw_310 kw_309 kw_308 rfl rfl rfl rfl hl.1 rfl (Nat.le_of_ble_eq_true rfl) ⟨Nat.le_of_ble_eq_true rfl, Nat.le_of_ble_eq_true rfl⟩ rfl rfl dX7_wants_48 hw (fun r48 S48 H locs h hw => ?_)
            replace h := h
            refine lv_if_ne (tgt := 56) hx hb dX7_wants_51 (by decide) (fun c51 => ?_) (fun c51 => ?_)
            · have h := h.1 c51
              replace hl := lv_sub hl [1, 2, 3] rfl
              exact mb_X7_wants_56 C0 x1 x2 S48 _ _ ls h hw hl
            · have h := h.2 c51
              refine lv_iconst (v := 0) hx hb dX7_wants_54 (by decide) ?_
              exact rtZ C0 hw rfl h dX7_wants_55
  · have h := h.2 c10
    refine lv_iconst (v := 1) hx hb dX7_wants_13 (by decide) ?_
    exact rtZ C0 hw rfl h dX7_wants_14
abbrev rm_X7_lackedBy : Room := { frames := 2, cells := 0, slots := 0, locals := 45 }
set_option maxHeartbeats 4000000 in
set_option maxRecDepth 100000 in
theorem mb_X7_lackedBy_62 {p : Program} {l : Launch} {e : Env} {s : State} {m : MethodId} {args : Array Value} {below : List Frame} {meth : Method} {c : Code} {D : va_G} {ad : Nat → Nat} {cI cJ cZ : ClassId} {A : Nat → Prop} {post : Int32 → MS → Prop} (C0 : Cx p s m args meth c cX7_lackedBy 3 RX7 (some .int) D cI cJ cZ A) (K13 : Int32 → Int32 → MS → Prop) (hK13 : ∀ (x1 : Int32) (x2 : Int32) (S : MS) (H : Heap) (locs : List Loc) (ls : Array Slot), K13 x1 x2 S → Wd (WM ad cI cJ cZ) D A s.heap H locs S → lv_has ls 3 [(0, .ref (ad 0)), (1, .int x1), (2, .int x2)] → W p l e rm_X7_lackedBy s m args below meth c H locs 0 0 (QI (WM ad cI cJ cZ) D A s args below post) (F0 m 13 ls [])) :
 ∀ (x1 : Int32) (x2 : Int32) (S : MS) (H : Heap) (locs : List Loc) (ls : Array Slot), wp_X7_lackedBy_62 K13 post x1 x2 S → Wd (WM ad cI cJ cZ) D A s.heap H locs S → lv_has ls 3 [(0, .ref (ad 0)), (1, .int x1), (2, .int x2)] → W p l e rm_X7_lackedBy s m args below meth c H locs 0 0 (QI (WM ad cI cJ cZ) D A s args below post) (F0 m 62 ls []) := by
  have hx := C0.1
  have hb := C0.2.1
  intro x1 x2 S H locs ls h hw hl
  unfold wp_X7_lackedBy_62 at h
  obtain ⟨x2_1, ex2_1⟩ : ∃ y : Int32, y = x2 + (1 : Int32) := ⟨_, rfl⟩
  refine lv_iinc (v := x2_1) (lv' := [(2, .int x2_1), (0, .ref (ad 0)), (1, .int x1)]) hx hb dX7_lackedBy_62 hl (k := 2) rfl (by rw [ex2_1]; rfl) (by decide) rfl (fun ls hl => ?_)
  have h := h x2_1 ex2_1
  refine lv_goto (tgt := 13) hx hb dX7_lackedBy_65 (by decide) ?_
  replace hl := lv_sub hl [1, 2, 0] rfl
  exact hK13 x1 x2_1 S _ _ _ h hw hl
set_option maxHeartbeats 4000000 in
set_option maxRecDepth 100000 in
theorem mb_X7_lackedBy_13 {p : Program} {l : Launch} {e : Env} {s : State} {m : MethodId} {args : Array Value} {below : List Frame} {meth : Method} {c : Code} {D : va_G} {ad : Nat → Nat} {cI cJ cZ : ClassId} {A : Nat → Prop} {post : Int32 → MS → Prop} (C0 : Cx p s m args meth c cX7_lackedBy 3 RX7 (some .int) D cI cJ cZ A) :
 ∀ (n : Nat) (x1 : Int32) (x2 : Int32) (S : MS) (H : Heap) (locs : List Loc) (ls : Array Slot), wp_X7_lackedBy_13 post n x1 x2 S → Wd (WM ad cI cJ cZ) D A s.heap H locs S → lv_has ls 3 [(0, .ref (ad 0)), (1, .int x1), (2, .int x2)] → W p l e rm_X7_lackedBy s m args below meth c H locs 0 0 (QI (WM ad cI cJ cZ) D A s args below post) (F0 m 13 ls []) := by
  have hx := C0.1
  have hb := C0.2.1
  intro n
  induction n with
  | zero => intro x1 x2 S H locs ls h; exact h.elim
  | succ n ih =>
    intro x1 x2 S H locs ls h hw hl
    replace h : ws_X7_lackedBy_13 (wp_X7_lackedBy_13  post n)  post x1 x2 S := h
    unfold ws_X7_lackedBy_13 at h
    refine lv_iload_n hx hb dX7_lackedBy_13 rfl (lv_at hl 2 rfl) ?_
    refine lv_aload_n hx hb dX7_lackedBy_14 rfl (lv_at hl 0 rfl) ?_
    refine gf_X7_leaves C0 hw dX7_lackedBy_15 ?_
    refine lv_aload_n hx hb dX7_lackedBy_18 rfl (lv_at hl 0 rfl) ?_
    refine gf_X7_of C0 hw dX7_lackedBy_19 ?_
    refine lv_iload_n hx hb dX7_lackedBy_22 rfl (lv_at hl 1 rfl) ?_
    refine ld_M_of C0 hw h.1 dX7_lackedBy_23 ?_
    have h := h.2
    refine ld_M_lvs C0 hw h.1 dX7_lackedBy_24 ?_
    have h := h.2
    refine lv_icmp_ge (tgt := 68) hx hb dX7_lackedBy_25 (by decide) (fun c25 => ?_) (fun c25 => ?_)
    · have h := h.1 c25
      refine lv_iconst (v := -1) hx hb dX7_lackedBy_68 (by decide) ?_
      exact rtI C0 hw h dX7_lackedBy_69
    · have h := h.2 c25
      refine lv_aload_n hx hb dX7_lackedBy_28 rfl (lv_at hl 0 rfl) ?_
      refine lv_iload_n hx hb dX7_lackedBy_29 rfl (lv_at hl 1 rfl) ?_
      refine lv_iload_n hx hb dX7_lackedBy_30 rfl (lv_at hl 2 rfl) ?_
      refine clVI (As := [.int x1, .int x2]) (rest := []) (ci := 6) (k := 0) C0 (m_X7_wants l D ad cI cJ cZ S x1 x2 _ h) cal_X7_wants kw_343 kw_342 kw_341 rfl rfl rfl rfl hl.1 rfl (Nat.le_of_ble_eq_true rfl) ⟨Nat.le_of_ble_eq_true rfl, Nat.le_of_ble_eq_true rfl⟩ rfl rfl dX7_lackedBy_31 hw (fun r31 S31 H locs h hw => ?_)
      replace h := h
      refine lv_if_eq (tgt := 62) hx hb dX7_lackedBy_34 (by decide) (fun c34 => ?_) (fun c34 => ?_)
      · have h := h.1 c34
        replace hl := lv_sub hl [0, 1, 2] rfl
        exact mb_X7_lackedBy_62 C0 _ ih x1 x2 S31 _ _ ls h hw hl
      · have h := h.2 c34
        refine lv_aload_n hx hb dX7_lackedBy_37 rfl (lv_at hl 0 rfl) ?_
        refine gf_X7_lost C0 hw dX7_lackedBy_38 ?_
        refine lv_bipush (v := 64) hx hb dX7_lackedBy_41 (by decide) ?_
        refine lv_iload_n hx hb dX7_lackedBy_43 rfl (lv_at hl 1 rfl) ?_
        refine lv_imul hx hb dX7_lackedBy_44 ?_
        refine lv_iconst (v := 4) hx hb dX7_lackedBy_45 (by decide) ?_
        refine lv_aload_n hx hb dX7_lackedBy_46 rfl (lv_at hl 0 rfl) ?_
        refine gf_X7_of C0 hw dX7_lackedBy_47 ?_
        refine lv_iload_n hx hb dX7_lackedBy_50 rfl (lv_at hl 1 rfl) ?_
        refine ld_M_of C0 hw h.1 dX7_lackedBy_51 ?_
        have h := h.2
        refine lv_imul hx hb dX7_lackedBy_52 ?_
        refine lv_iadd hx hb dX7_lackedBy_53 ?_
        refine lv_iload_n hx hb dX7_lackedBy_54 rfl (lv_at hl 2 rfl) ?_
        refine lv_iadd hx hb dX7_lackedBy_55 ?_
        refine ld_M_lost C0 hw h.1 dX7_lackedBy_56 ?_
        have h := h.2
        refine lv_if_eq (tgt := 62) hx hb dX7_lackedBy_57 (by decide) (fun c57 => ?_) (fun c57 => ?_)
        · have h := h.1 c57
          replace hl := lv_sub hl [0, 1, 2] rfl
          exact mb_X7_lackedBy_62 C0 _ ih x1 x2 S31 _ _ ls h hw hl
        · have h := h.2 c57
          refine lv_iload_n hx hb dX7_lackedBy_60 rfl (lv_at hl 2 rfl) ?_
          exact rtI C0 hw h dX7_lackedBy_61
set_option maxHeartbeats 4000000 in
set_option maxRecDepth 100000 in
theorem m_X7_lackedBy (l : Launch) (D : va_G) (ad : Nat → Nat) (cI cJ cZ : ClassId) (S : MS) (x1 : Int32) (post : Int32 → MS → Prop) (h : wp_X7_lackedBy S x1 post) : CI (WM ad cI cJ cZ) D cI cJ cZ l yX7_lackedBy (.code yX7_lackedBy cX7_lackedBy 3 (some .int) :: gt) rm_X7_lackedBy S [.ref (ad 0), .int x1] post := by
  refine enI (by decide) (Nat.le_of_ble_eq_true rfl) ?_
  intro p e s m below meth c A ls C0 hw hl
  have C0 : Cx p s m _ meth c cX7_lackedBy 3 RX7 (some .int) D cI cJ cZ A := C0
  have hl : lv_has ls 3 [(0, .ref (ad 0)), (1, .int x1)] := hl
  have hx := C0.1
  have hb := C0.2.1
  unfold wp_X7_lackedBy at h
  refine lv_aload_n hx hb dX7_lackedBy_0 rfl (lv_at hl 0 rfl) ?_
  refine gf_X7_acts C0 hw dX7_lackedBy_1 ?_
  refine lv_iload_n hx hb dX7_lackedBy_4 rfl (lv_at hl 1 rfl) ?_
  refine ld_M_acts C0 hw h.1 dX7_lackedBy_5 ?_
  have h := h.2
  refine lv_if_ne (tgt := 11) hx hb dX7_lackedBy_6 (by decide) (fun c6 => ?_) (fun c6 => ?_)
  · have h := h.1 c6
    refine lv_iconst (v := 0) hx hb dX7_lackedBy_11 (by decide) ?_
    refine lv_istore_n (lv' := [(2, .int (0 : Int32)), (0, .ref (ad 0)), (1, .int x1)]) hx hb dX7_lackedBy_12 rfl hl (by decide) rfl (fun ls hl => ?_)
    replace hl := lv_sub hl [1, 2, 0] rfl
    obtain ⟨n, h⟩ := h
    exact mb_X7_lackedBy_13 C0 n x1 (0 : Int32) S _ _ ls h hw hl
  · have h := h.2 c6
    refine lv_iconst (v := -1) hx hb dX7_lackedBy_9 (by decide) ?_
    exact rtI C0 hw h dX7_lackedBy_10
abbrev rm_X7_taker : Room := { frames := 3, cells := 0, slots := 0, locals := 67 }
set_option maxHeartbeats 4000000 in
set_option maxRecDepth 100000 in
theorem mb_X7_taker_258 {p : Program} {l : Launch} {e : Env} {s : State} {m : MethodId} {args : Array Value} {below : List Frame} {meth : Method} {c : Code} {D : va_G} {ad : Nat → Nat} {cI cJ cZ : ClassId} {A : Nat → Prop} {post : Int32 → MS → Prop} (C0 : Cx p s m args meth c cX7_taker 7 RX7 (some .int) D cI cJ cZ A) (K16 : Int32 → Int32 → Int32 → Int32 → MS → Prop) (hK16 : ∀ (x1 : Int32) (x2 : Int32) (x3 : Int32) (x4 : Int32) (S : MS) (H : Heap) (locs : List Loc) (ls : Array Slot), K16 x1 x2 x3 x4 S → Wd (WM ad cI cJ cZ) D A s.heap H locs S → lv_has ls 7 [(0, .ref (ad 0)), (1, .int x1), (2, .int x2), (3, .int x3), (4, .int x4)] → W p l e rm_X7_taker s m args below meth c H locs 0 0 (QI (WM ad cI cJ cZ) D A s args below post) (F0 m 16 ls [])) :
 ∀ (x1 : Int32) (x2 : Int32) (x3 : Int32) (x4 : Int32) (S : MS) (H : Heap) (locs : List Loc) (ls : Array Slot), wp_X7_taker_258 K16 post x1 x2 x3 x4 S → Wd (WM ad cI cJ cZ) D A s.heap H locs S → lv_has ls 7 [(0, .ref (ad 0)), (1, .int x1), (2, .int x2), (3, .int x3), (4, .int x4)] → W p l e rm_X7_taker s m args below meth c H locs 0 0 (QI (WM ad cI cJ cZ) D A s args below post) (F0 m 258 ls []) := by
  have hx := C0.1
  have hb := C0.2.1
  intro x1 x2 x3 x4 S H locs ls h hw hl
  unfold wp_X7_taker_258 at h
  obtain ⟨x4_1, ex4_1⟩ : ∃ y : Int32, y = x4 + (1 : Int32) := ⟨_, rfl⟩
  refine lv_iinc (v := x4_1) (lv' := [(4, .int x4_1), (0, .ref (ad 0)), (1, .int x1), (2, .int x2), (3, .int x3)]) hx hb dX7_taker_258 hl (k := 4) rfl (by rw [ex4_1]; rfl) (by decide) rfl (fun ls hl => ?_)
  have h := h x4_1 ex4_1
  refine lv_goto (tgt := 16) hx hb dX7_taker_261 (by decide) ?_
  replace hl := lv_sub hl [1, 2, 3, 4, 0] rfl
  exact hK16 x1 x2 x3 x4_1 S _ _ _ h hw hl
set_option maxHeartbeats 4000000 in
set_option maxRecDepth 100000 in
theorem mb_X7_taker_135 {p : Program} {l : Launch} {e : Env} {s : State} {m : MethodId} {args : Array Value} {below : List Frame} {meth : Method} {c : Code} {D : va_G} {ad : Nat → Nat} {cI cJ cZ : ClassId} {A : Nat → Prop} {post : Int32 → MS → Prop} (C0 : Cx p s m args meth c cX7_taker 7 RX7 (some .int) D cI cJ cZ A) (K81 : Int32 → Int32 → Int32 → Int32 → Int32 → MS → Prop) (hK81 : ∀ (x1 : Int32) (x2 : Int32) (x3 : Int32) (x4 : Int32) (x5 : Int32) (S : MS) (H : Heap) (locs : List Loc) (ls : Array Slot), K81 x1 x2 x3 x4 x5 S → Wd (WM ad cI cJ cZ) D A s.heap H locs S → lv_has ls 7 [(0, .ref (ad 0)), (1, .int x1), (2, .int x2), (3, .int x3), (4, .int x4), (5, .int x5)] → W p l e rm_X7_taker s m args below meth c H locs 0 0 (QI (WM ad cI cJ cZ) D A s args below post) (F0 m 81 ls [])) :
 ∀ (x1 : Int32) (x2 : Int32) (x3 : Int32) (x4 : Int32) (x5 : Int32) (S : MS) (H : Heap) (locs : List Loc) (ls : Array Slot), wp_X7_taker_135 K81 post x1 x2 x3 x4 x5 S → Wd (WM ad cI cJ cZ) D A s.heap H locs S → lv_has ls 7 [(0, .ref (ad 0)), (1, .int x1), (2, .int x2), (3, .int x3), (4, .int x4), (5, .int x5)] → W p l e rm_X7_taker s m args below meth c H locs 0 0 (QI (WM ad cI cJ cZ) D A s args below post) (F0 m 135 ls []) := by
  have hx := C0.1
  have hb := C0.2.1
  intro x1 x2 x3 x4 x5 S H locs ls h hw hl
  unfold wp_X7_taker_135 at h
  obtain ⟨x5_1, ex5_1⟩ : ∃ y : Int32, y = x5 + (1 : Int32) := ⟨_, rfl⟩
  refine lv_iinc (v := x5_1) (lv' := [(5, .int x5_1), (0, .ref (ad 0)), (1, .int x1), (2, .int x2), (3, .int x3), (4, .int x4)]) hx hb dX7_taker_135 hl (k := 5) rfl (by rw [ex5_1]; rfl) (by decide) rfl (fun ls hl => ?_)
  have h := h x5_1 ex5_1
  refine lv_goto (tgt := 81) hx hb dX7_taker_138 (by decide) ?_
  replace hl := lv_sub hl [1, 2, 3, 4, 5, 0] rfl
  exact hK81 x1 x2 x3 x4 x5_1 S _ _ _ h hw hl
set_option maxHeartbeats 4000000 in
set_option maxRecDepth 100000 in
theorem mb_X7_taker_249 {p : Program} {l : Launch} {e : Env} {s : State} {m : MethodId} {args : Array Value} {below : List Frame} {meth : Method} {c : Code} {D : va_G} {ad : Nat → Nat} {cI cJ cZ : ClassId} {A : Nat → Prop} {post : Int32 → MS → Prop} (C0 : Cx p s m args meth c cX7_taker 7 RX7 (some .int) D cI cJ cZ A) (K195 : Int32 → Int32 → Int32 → Int32 → Int32 → Int32 → MS → Prop) (hK195 : ∀ (x1 : Int32) (x2 : Int32) (x3 : Int32) (x4 : Int32) (x5 : Int32) (x6 : Int32) (S : MS) (H : Heap) (locs : List Loc) (ls : Array Slot), K195 x1 x2 x3 x4 x5 x6 S → Wd (WM ad cI cJ cZ) D A s.heap H locs S → lv_has ls 7 [(0, .ref (ad 0)), (1, .int x1), (2, .int x2), (3, .int x3), (4, .int x4), (5, .int x5), (6, .int x6)] → W p l e rm_X7_taker s m args below meth c H locs 0 0 (QI (WM ad cI cJ cZ) D A s args below post) (F0 m 195 ls [])) :
 ∀ (x1 : Int32) (x2 : Int32) (x3 : Int32) (x4 : Int32) (x5 : Int32) (x6 : Int32) (S : MS) (H : Heap) (locs : List Loc) (ls : Array Slot), wp_X7_taker_249 K195 post x1 x2 x3 x4 x5 x6 S → Wd (WM ad cI cJ cZ) D A s.heap H locs S → lv_has ls 7 [(0, .ref (ad 0)), (1, .int x1), (2, .int x2), (3, .int x3), (4, .int x4), (5, .int x5), (6, .int x6)] → W p l e rm_X7_taker s m args below meth c H locs 0 0 (QI (WM ad cI cJ cZ) D A s args below post) (F0 m 249 ls []) := by
  have hx := C0.1
  have hb := C0.2.1
  intro x1 x2 x3 x4 x5 x6 S H locs ls h hw hl
  unfold wp_X7_taker_249 at h
  obtain ⟨x6_1, ex6_1⟩ : ∃ y : Int32, y = x6 + (1 : Int32) := ⟨_, rfl⟩
  refine lv_iinc (v := x6_1) (lv' := [(6, .int x6_1), (0, .ref (ad 0)), (1, .int x1), (2, .int x2), (3, .int x3), (4, .int x4), (5, .int x5)]) hx hb dX7_taker_249 hl (k := 6) rfl (by rw [ex6_1]; rfl) (by decide) rfl (fun ls hl => ?_)
  have h := h x6_1 ex6_1
  refine lv_goto (tgt := 195) hx hb dX7_taker_252 (by decide) ?_
  replace hl := lv_sub hl [1, 2, 3, 4, 5, 6, 0] rfl
  exact hK195 x1 x2 x3 x4 x5 x6_1 S _ _ _ h hw hl
set_option maxHeartbeats 4000000 in
set_option maxRecDepth 100000 in
theorem mb_X7_taker_195 {p : Program} {l : Launch} {e : Env} {s : State} {m : MethodId} {args : Array Value} {below : List Frame} {meth : Method} {c : Code} {D : va_G} {ad : Nat → Nat} {cI cJ cZ : ClassId} {A : Nat → Prop} {post : Int32 → MS → Prop} (C0 : Cx p s m args meth c cX7_taker 7 RX7 (some .int) D cI cJ cZ A) (K141 : Int32 → Int32 → Int32 → Int32 → MS → Prop) (hK141 : ∀ (x1 : Int32) (x2 : Int32) (x3 : Int32) (x4 : Int32) (S : MS) (H : Heap) (locs : List Loc) (ls : Array Slot), K141 x1 x2 x3 x4 S → Wd (WM ad cI cJ cZ) D A s.heap H locs S → lv_has ls 7 [(0, .ref (ad 0)), (1, .int x1), (2, .int x2), (3, .int x3), (4, .int x4)] → W p l e rm_X7_taker s m args below meth c H locs 0 0 (QI (WM ad cI cJ cZ) D A s args below post) (F0 m 141 ls [])) :
 ∀ (n : Nat) (x1 : Int32) (x2 : Int32) (x3 : Int32) (x4 : Int32) (x5 : Int32) (x6 : Int32) (S : MS) (H : Heap) (locs : List Loc) (ls : Array Slot), wp_X7_taker_195 K141 post n x1 x2 x3 x4 x5 x6 S → Wd (WM ad cI cJ cZ) D A s.heap H locs S → lv_has ls 7 [(0, .ref (ad 0)), (1, .int x1), (2, .int x2), (3, .int x3), (4, .int x4), (5, .int x5), (6, .int x6)] → W p l e rm_X7_taker s m args below meth c H locs 0 0 (QI (WM ad cI cJ cZ) D A s args below post) (F0 m 195 ls []) := by
  have hx := C0.1
  have hb := C0.2.1
  intro n
  induction n with
  | zero => intro x1 x2 x3 x4 x5 x6 S H locs ls h; exact h.elim
  | succ n ih =>
    intro x1 x2 x3 x4 x5 x6 S H locs ls h hw hl
    replace h : ws_X7_taker_195 (wp_X7_taker_195 K141 post n) K141 post x1 x2 x3 x4 x5 x6 S := h
    unfold ws_X7_taker_195 at h
    refine lv_iload hx hb dX7_taker_195 (lv_at hl 6 rfl) ?_
    refine lv_iconst (v := 4) hx hb dX7_taker_197 (by decide) ?_
    refine lv_icmp_ge (tgt := 255) hx hb dX7_taker_198 (by decide) (fun c198 => ?_) (fun c198 => ?_)
    · have h := h.1 c198
      refine lv_goto (tgt := 141) hx hb dX7_taker_255 (by decide) ?_
      replace hl := lv_sub hl [0, 1, 2, 3, 4] rfl
      exact hK141 x1 x2 x3 x4 S _ _ _ h hw hl
    · have h := h.2 c198
      refine lv_aload_n hx hb dX7_taker_201 rfl (lv_at hl 0 rfl) ?_
      refine gf_X7_nexts C0 hw dX7_taker_202 ?_
      refine lv_iconst (v := 4) hx hb dX7_taker_205 (by decide) ?_
      refine lv_iload hx hb dX7_taker_206 (lv_at hl 5 rfl) ?_
      refine lv_imul hx hb dX7_taker_208 ?_
      refine lv_iload hx hb dX7_taker_209 (lv_at hl 6 rfl) ?_
      refine lv_iadd hx hb dX7_taker_211 ?_
      refine ld_M_nexts C0 hw h.1 dX7_taker_212 ?_
      have h := h.2
      refine lv_iconst (v := -1) hx hb dX7_taker_213 (by decide) ?_
      refine lv_icmp_eq (tgt := 249) hx hb dX7_taker_214 (by decide) (fun c214 => ?_) (fun c214 => ?_)
      · have h := h.1 c214
        replace hl := lv_sub hl [0, 1, 2, 3, 4, 5, 6] rfl
        exact mb_X7_taker_249 C0 _ ih x1 x2 x3 x4 x5 x6 S _ _ ls h hw hl
      · have h := h.2 c214
        refine lv_aload_n hx hb dX7_taker_217 rfl (lv_at hl 0 rfl) ?_
        refine lv_aload_n hx hb dX7_taker_218 rfl (lv_at hl 0 rfl) ?_
        refine gf_X7_seen C0 hw dX7_taker_219 ?_
        refine lv_aload_n hx hb dX7_taker_222 rfl (lv_at hl 0 rfl) ?_
        refine gf_X7_nexts C0 hw dX7_taker_223 ?_
        refine lv_iconst (v := 4) hx hb dX7_taker_226 (by decide) ?_
        refine lv_iload hx hb dX7_taker_227 (lv_at hl 5 rfl) ?_
        refine lv_imul hx hb dX7_taker_229 ?_
        refine lv_iload hx hb dX7_taker_230 (lv_at hl 6 rfl) ?_
        refine lv_iadd hx hb dX7_taker_232 ?_
        refine ld_M_nexts C0 hw h.1 dX7_taker_233 ?_
        have h := h.2
        refine lv_aload_n hx hb dX7_taker_234 rfl (lv_at hl 0 rfl) ?_
        refine gf_X7_nexts C0 hw dX7_taker_235 ?_
        refine lv_iconst (v := 4) hx hb dX7_taker_238 (by decide) ?_
        refine lv_iload hx hb dX7_taker_239 (lv_at hl 5 rfl) ?_
        refine lv_imul hx hb dX7_taker_241 ?_
        refine lv_iload hx hb dX7_taker_242 (lv_at hl 6 rfl) ?_
        refine lv_iadd hx hb dX7_taker_244 ?_
        refine ld_M_nexts C0 hw h.1 dX7_taker_245 ?_
        have h := h.2
        refine clVV (As := [.ref (ad 17), .int (gM_nexts S (((4 : Int32) * x5) + x6).toNatClampNeg), .int (gM_nexts S (((4 : Int32) * x5) + x6).toNatClampNeg)]) (rest := []) (ci := 6) (k := 0) C0 (m_X7_come_seen l D ad cI cJ cZ S (gM_nexts S (((4 : Int32) * x5) + x6).toNatClampNeg) (gM_nexts S (((4 : Int32) * x5) + x6).toNatClampNeg) _ h) cal_X7_come kw_328 kw_327 kw_326 rfl rfl rfl rfl hl.1 rfl (Nat.le_of_ble_eq_true rfl) ⟨Nat.le_of_ble_eq_true rfl, Nat.le_of_ble_eq_true rfl⟩ rfl rfl dX7_taker_246 hw (fun S246 H locs h hw => ?_)
        replace h := h
        replace hl := lv_sub hl [0, 1, 2, 3, 4, 5, 6] rfl
        exact mb_X7_taker_249 C0 _ ih x1 x2 x3 x4 x5 x6 S246 _ _ ls h hw hl
set_option maxHeartbeats 4000000 in
set_option maxRecDepth 100000 in
theorem mb_X7_taker_141 {p : Program} {l : Launch} {e : Env} {s : State} {m : MethodId} {args : Array Value} {below : List Frame} {meth : Method} {c : Code} {D : va_G} {ad : Nat → Nat} {cI cJ cZ : ClassId} {A : Nat → Prop} {post : Int32 → MS → Prop} (C0 : Cx p s m args meth c cX7_taker 7 RX7 (some .int) D cI cJ cZ A) (K258 : Int32 → Int32 → Int32 → Int32 → MS → Prop) (hK258 : ∀ (x1 : Int32) (x2 : Int32) (x3 : Int32) (x4 : Int32) (S : MS) (H : Heap) (locs : List Loc) (ls : Array Slot), K258 x1 x2 x3 x4 S → Wd (WM ad cI cJ cZ) D A s.heap H locs S → lv_has ls 7 [(0, .ref (ad 0)), (1, .int x1), (2, .int x2), (3, .int x3), (4, .int x4)] → W p l e rm_X7_taker s m args below meth c H locs 0 0 (QI (WM ad cI cJ cZ) D A s args below post) (F0 m 258 ls [])) :
 ∀ (n : Nat) (x1 : Int32) (x2 : Int32) (x3 : Int32) (x4 : Int32) (S : MS) (H : Heap) (locs : List Loc) (ls : Array Slot), wp_X7_taker_141 K258 post n x1 x2 x3 x4 S → Wd (WM ad cI cJ cZ) D A s.heap H locs S → lv_has ls 7 [(0, .ref (ad 0)), (1, .int x1), (2, .int x2), (3, .int x3), (4, .int x4)] → W p l e rm_X7_taker s m args below meth c H locs 0 0 (QI (WM ad cI cJ cZ) D A s args below post) (F0 m 141 ls []) := by
  have hx := C0.1
  have hb := C0.2.1
  intro n
  induction n with
  | zero => intro x1 x2 x3 x4 S H locs ls h; exact h.elim
  | succ n ih =>
    intro x1 x2 x3 x4 S H locs ls h hw hl
    replace h : ws_X7_taker_141 (wp_X7_taker_141 K258 post n) K258 post x1 x2 x3 x4 S := h
    unfold ws_X7_taker_141 at h
    refine lv_aload_n hx hb dX7_taker_141 rfl (lv_at hl 0 rfl) ?_
    refine gf_X7_piled C0 hw dX7_taker_142 ?_
    refine lv_if_le (tgt := 258) hx hb dX7_taker_145 (by decide) (fun c145 => ?_) (fun c145 => ?_)
    · have h := h.1 c145
      replace hl := lv_sub hl [0, 1, 2, 3, 4] rfl
      exact hK258 x1 x2 x3 x4 S _ _ _ h hw hl
    · have h := h.2 c145
      refine lv_aload_n hx hb dX7_taker_148 rfl (lv_at hl 0 rfl) ?_
      refine lv_dup hx hb dX7_taker_149 rfl ?_
      refine gf_X7_piled C0 hw dX7_taker_150 ?_
      refine lv_iconst (v := 1) hx hb dX7_taker_153 (by decide) ?_
      refine lv_isub hx hb dX7_taker_154 ?_
      refine pf_X7_piled C0 hw dX7_taker_155 (fun H locs hw => ?_)
      obtain ⟨S_1, eS_1⟩ : ∃ z, z = sM_piled S ((gM_piled S) - (1 : Int32)) := ⟨_, rfl⟩
      rw [← eS_1] at hw
      have h := h S_1 eS_1
      refine lv_aload_n hx hb dX7_taker_158 rfl (lv_at hl 0 rfl) ?_
      refine gf_X7_pile C0 hw dX7_taker_159 ?_
      refine lv_aload_n hx hb dX7_taker_162 rfl (lv_at hl 0 rfl) ?_
      refine gf_X7_piled C0 hw dX7_taker_163 ?_
      refine ld_M_pile C0 hw h.1 dX7_taker_166 ?_
      have h := h.2
      refine lv_topi (fun x5_2 ex5_2 => ?_)
      have h := h x5_2 ex5_2
      refine lv_istore (lv' := [(5, .int x5_2), (0, .ref (ad 0)), (1, .int x1), (2, .int x2), (3, .int x3), (4, .int x4)]) hx hb dX7_taker_167 hl (by decide) rfl (fun ls hl => ?_)
      refine lv_iload hx hb dX7_taker_169 (lv_at hl 0 rfl) ?_
      refine lv_iload_n hx hb dX7_taker_171 rfl (lv_at hl 2 rfl) ?_
      refine lv_icmp_ne (tgt := 178) hx hb dX7_taker_172 (by decide) (fun c172 => ?_) (fun c172 => ?_)
      · have h := h.1 c172
        refine lv_aload_n hx hb dX7_taker_178 rfl (lv_at hl 1 rfl) ?_
        refine lv_iload hx hb dX7_taker_179 (lv_at hl 0 rfl) ?_
        refine lv_iload_n hx hb dX7_taker_181 rfl (lv_at hl 3 rfl) ?_
        refine lv_iload_n hx hb dX7_taker_182 rfl (lv_at hl 4 rfl) ?_
        refine clVI (As := [.int x5_2, .int x2, .int x3]) (rest := []) (ci := 6) (k := 0) C0 (m_X7_gives l D ad cI cJ cZ S_1 x5_2 x2 x3 _ h) cal_X7_gives kw_334 kw_333 kw_332 rfl rfl rfl rfl hl.1 rfl (Nat.le_of_ble_eq_true rfl) ⟨Nat.le_of_ble_eq_true rfl, Nat.le_of_ble_eq_true rfl⟩ rfl rfl dX7_taker_183 hw (fun r183 S183 H locs h hw => ?_)
        replace h := h
        refine lv_if_eq (tgt := 192) hx hb dX7_taker_186 (by decide) (fun c186 => ?_) (fun c186 => ?_)
        · have h := h.1 c186
          refine lv_iconst (v := 0) hx hb dX7_taker_192 (by decide) ?_
          refine lv_istore (lv' := [(6, .int (0 : Int32)), (5, .int x5_2), (0, .ref (ad 0)), (1, .int x1), (2, .int x2), (3, .int x3), (4, .int x4)]) hx hb dX7_taker_193 hl (by decide) rfl (fun ls hl => ?_)
          replace hl := lv_sub hl [2, 3, 4, 5, 6, 1, 0] rfl
          obtain ⟨n, h⟩ := h
          exact mb_X7_taker_195 C0 _ ih n x1 x2 x3 x4 x5_2 (0 : Int32) S183 _ _ ls h hw hl
        · have h := h.2 c186
          refine lv_goto (tgt := 141) hx hb dX7_taker_189 (by decide) ?_
          replace hl := lv_sub hl [1, 2, 3, 4, 5] rfl
          exact ih x1 x2 x3 x4 S183 _ _ _ h hw hl
      · have h := h.2 c172
        refine lv_iload hx hb dX7_taker_175 (lv_at hl 5 rfl) ?_
        exact rtI C0 hw h dX7_taker_177
set_option maxHeartbeats 4000000 in
set_option maxRecDepth 100000 in
theorem mb_X7_taker_81 {p : Program} {l : Launch} {e : Env} {s : State} {m : MethodId} {args : Array Value} {below : List Frame} {meth : Method} {c : Code} {D : va_G} {ad : Nat → Nat} {cI cJ cZ : ClassId} {A : Nat → Prop} {post : Int32 → MS → Prop} (C0 : Cx p s m args meth c cX7_taker 7 RX7 (some .int) D cI cJ cZ A) (K258 : Int32 → Int32 → Int32 → Int32 → MS → Prop) (hK258 : ∀ (x1 : Int32) (x2 : Int32) (x3 : Int32) (x4 : Int32) (S : MS) (H : Heap) (locs : List Loc) (ls : Array Slot), K258 x1 x2 x3 x4 S → Wd (WM ad cI cJ cZ) D A s.heap H locs S → lv_has ls 7 [(0, .ref (ad 0)), (1, .int x1), (2, .int x2), (3, .int x3), (4, .int x4)] → W p l e rm_X7_taker s m args below meth c H locs 0 0 (QI (WM ad cI cJ cZ) D A s args below post) (F0 m 258 ls [])) :
 ∀ (n : Nat) (x1 : Int32) (x2 : Int32) (x3 : Int32) (x4 : Int32) (x5 : Int32) (S : MS) (H : Heap) (locs : List Loc) (ls : Array Slot), wp_X7_taker_81 K258 post n x1 x2 x3 x4 x5 S → Wd (WM ad cI cJ cZ) D A s.heap H locs S → lv_has ls 7 [(0, .ref (ad 0)), (1, .int x1), (2, .int x2), (3, .int x3), (4, .int x4), (5, .int x5)] → W p l e rm_X7_taker s m args below meth c H locs 0 0 (QI (WM ad cI cJ cZ) D A s args below post) (F0 m 81 ls []) := by
  have hx := C0.1
  have hb := C0.2.1
  intro n
  induction n with
  | zero => intro x1 x2 x3 x4 x5 S H locs ls h; exact h.elim
  | succ n ih =>
    intro x1 x2 x3 x4 x5 S H locs ls h hw hl
    replace h : ws_X7_taker_81 (wp_X7_taker_81 K258 post n) K258 post x1 x2 x3 x4 x5 S := h
    unfold ws_X7_taker_81 at h
    refine lv_iload hx hb dX7_taker_81 (lv_at hl 5 rfl) ?_
    refine lv_iconst (v := 4) hx hb dX7_taker_83 (by decide) ?_
    refine lv_icmp_ge (tgt := 141) hx hb dX7_taker_84 (by decide) (fun c84 => ?_) (fun c84 => ?_)
    · have h := h.1 c84
      replace hl := lv_sub hl [0, 1, 2, 3, 4] rfl
      obtain ⟨n, h⟩ := h
      exact mb_X7_taker_141 C0 _ hK258 n x1 x2 x3 x4 S _ _ ls h hw hl
    · have h := h.2 c84
      refine lv_aload_n hx hb dX7_taker_87 rfl (lv_at hl 0 rfl) ?_
      refine gf_X7_nexts C0 hw dX7_taker_88 ?_
      refine lv_iconst (v := 4) hx hb dX7_taker_91 (by decide) ?_
      refine lv_iload hx hb dX7_taker_92 (lv_at hl 4 rfl) ?_
      refine lv_imul hx hb dX7_taker_94 ?_
      refine lv_iload hx hb dX7_taker_95 (lv_at hl 5 rfl) ?_
      refine lv_iadd hx hb dX7_taker_97 ?_
      refine ld_M_nexts C0 hw h.1 dX7_taker_98 ?_
      have h := h.2
      refine lv_iconst (v := -1) hx hb dX7_taker_99 (by decide) ?_
      refine lv_icmp_eq (tgt := 135) hx hb dX7_taker_100 (by decide) (fun c100 => ?_) (fun c100 => ?_)
      · have h := h.1 c100
        replace hl := lv_sub hl [0, 1, 2, 3, 4, 5] rfl
        exact mb_X7_taker_135 C0 _ ih x1 x2 x3 x4 x5 S _ _ ls h hw hl
      · have h := h.2 c100
        refine lv_aload_n hx hb dX7_taker_103 rfl (lv_at hl 0 rfl) ?_
        refine lv_aload_n hx hb dX7_taker_104 rfl (lv_at hl 0 rfl) ?_
        refine gf_X7_seen C0 hw dX7_taker_105 ?_
        refine lv_aload_n hx hb dX7_taker_108 rfl (lv_at hl 0 rfl) ?_
        refine gf_X7_nexts C0 hw dX7_taker_109 ?_
        refine lv_iconst (v := 4) hx hb dX7_taker_112 (by decide) ?_
        refine lv_iload hx hb dX7_taker_113 (lv_at hl 4 rfl) ?_
        refine lv_imul hx hb dX7_taker_115 ?_
        refine lv_iload hx hb dX7_taker_116 (lv_at hl 5 rfl) ?_
        refine lv_iadd hx hb dX7_taker_118 ?_
        refine ld_M_nexts C0 hw h.1 dX7_taker_119 ?_
        have h := h.2
        refine lv_aload_n hx hb dX7_taker_120 rfl (lv_at hl 0 rfl) ?_
        refine gf_X7_nexts C0 hw dX7_taker_121 ?_
        refine lv_iconst (v := 4) hx hb dX7_taker_124 (by decide) ?_
        refine lv_iload hx hb dX7_taker_125 (lv_at hl 4 rfl) ?_
        refine lv_imul hx hb dX7_taker_127 ?_
        refine lv_iload hx hb dX7_taker_128 (lv_at hl 5 rfl) ?_
        refine lv_iadd hx hb dX7_taker_130 ?_
        refine ld_M_nexts C0 hw h.1 dX7_taker_131 ?_
        have h := h.2
        refine clVV (As := [.ref (ad 17), .int (gM_nexts S (((4 : Int32) * x4) + x5).toNatClampNeg), .int (gM_nexts S (((4 : Int32) * x4) + x5).toNatClampNeg)]) (rest := []) (ci := 6) (k := 0) C0 (m_X7_come_seen l D ad cI cJ cZ S (gM_nexts S (((4 : Int32) * x4) + x5).toNatClampNeg) (gM_nexts S (((4 : Int32) * x4) + x5).toNatClampNeg) _ h) cal_X7_come kw_328 kw_327 kw_326 rfl rfl rfl rfl hl.1 rfl (Nat.le_of_ble_eq_true rfl) ⟨Nat.le_of_ble_eq_true rfl, Nat.le_of_ble_eq_true rfl⟩ rfl rfl dX7_taker_132 hw (fun S132 H locs h hw => ?_)
        replace h := h
        replace hl := lv_sub hl [0, 1, 2, 3, 4, 5] rfl
        exact mb_X7_taker_135 C0 _ ih x1 x2 x3 x4 x5 S132 _ _ ls h hw hl
set_option maxHeartbeats 4000000 in
set_option maxRecDepth 100000 in
theorem mb_X7_taker_51 {p : Program} {l : Launch} {e : Env} {s : State} {m : MethodId} {args : Array Value} {below : List Frame} {meth : Method} {c : Code} {D : va_G} {ad : Nat → Nat} {cI cJ cZ : ClassId} {A : Nat → Prop} {post : Int32 → MS → Prop} (C0 : Cx p s m args meth c cX7_taker 7 RX7 (some .int) D cI cJ cZ A) (K258 : Int32 → Int32 → Int32 → Int32 → MS → Prop) (hK258 : ∀ (x1 : Int32) (x2 : Int32) (x3 : Int32) (x4 : Int32) (S : MS) (H : Heap) (locs : List Loc) (ls : Array Slot), K258 x1 x2 x3 x4 S → Wd (WM ad cI cJ cZ) D A s.heap H locs S → lv_has ls 7 [(0, .ref (ad 0)), (1, .int x1), (2, .int x2), (3, .int x3), (4, .int x4)] → W p l e rm_X7_taker s m args below meth c H locs 0 0 (QI (WM ad cI cJ cZ) D A s args below post) (F0 m 258 ls [])) :
 ∀ (n : Nat) (x1 : Int32) (x2 : Int32) (x3 : Int32) (x4 : Int32) (x5 : Int32) (S : MS) (H : Heap) (locs : List Loc) (ls : Array Slot), wp_X7_taker_51 K258 post n x1 x2 x3 x4 x5 S → Wd (WM ad cI cJ cZ) D A s.heap H locs S → lv_has ls 7 [(0, .ref (ad 0)), (1, .int x1), (2, .int x2), (3, .int x3), (4, .int x4), (5, .int x5)] → W p l e rm_X7_taker s m args below meth c H locs 0 0 (QI (WM ad cI cJ cZ) D A s args below post) (F0 m 51 ls []) := by
  have hx := C0.1
  have hb := C0.2.1
  intro n
  induction n with
  | zero => intro x1 x2 x3 x4 x5 S H locs ls h; exact h.elim
  | succ n ih =>
    intro x1 x2 x3 x4 x5 S H locs ls h hw hl
    replace h : ws_X7_taker_51 (wp_X7_taker_51 K258 post n) K258 post x1 x2 x3 x4 x5 S := h
    unfold ws_X7_taker_51 at h
    refine lv_iload hx hb dX7_taker_51 (lv_at hl 5 rfl) ?_
    refine lv_sipush (v := 150) hx hb dX7_taker_53 (by decide) ?_
    refine lv_icmp_ge (tgt := 73) hx hb dX7_taker_56 (by decide) (fun c56 => ?_) (fun c56 => ?_)
    · have h := h.1 c56
      refine lv_aload_n hx hb dX7_taker_73 rfl (lv_at hl 0 rfl) ?_
      refine lv_iconst (v := 0) hx hb dX7_taker_74 (by decide) ?_
      refine pf_X7_piled C0 hw dX7_taker_75 (fun H locs hw => ?_)
      obtain ⟨S_1, eS_1⟩ : ∃ z, z = sM_piled S (0 : Int32) := ⟨_, rfl⟩
      rw [← eS_1] at hw
      have h := h S_1 eS_1
      refine lv_iconst (v := 0) hx hb dX7_taker_78 (by decide) ?_
      refine lv_istore (lv' := [(5, .int (0 : Int32)), (0, .ref (ad 0)), (1, .int x1), (2, .int x2), (3, .int x3), (4, .int x4)]) hx hb dX7_taker_79 hl (by decide) rfl (fun ls hl => ?_)
      replace hl := lv_sub hl [1, 2, 3, 4, 5, 0] rfl
      obtain ⟨n, h⟩ := h
      exact mb_X7_taker_81 C0 _ hK258 n x1 x2 x3 x4 (0 : Int32) S_1 _ _ ls h hw hl
    · have h := h.2 c56
      refine lv_aload_n hx hb dX7_taker_59 rfl (lv_at hl 0 rfl) ?_
      refine gf_X7_seen C0 hw dX7_taker_60 ?_
      refine lv_iload hx hb dX7_taker_63 (lv_at hl 5 rfl) ?_
      refine lv_iconst (v := 0) hx hb dX7_taker_65 (by decide) ?_
      refine st_M_seen C0 hw h.1 dX7_taker_66 (fun H locs hw => ?_)
      have h := h.2
      obtain ⟨S_2, eS_2⟩ : ∃ z, z = sM_seen S (upd (gM_seen S) (x5).toNatClampNeg (vp_nar .boolean (0 : Int32))) := ⟨_, rfl⟩
      rw [← eS_2] at hw
      have h := h S_2 eS_2
      obtain ⟨x5_3, ex5_3⟩ : ∃ y : Int32, y = x5 + (1 : Int32) := ⟨_, rfl⟩
      refine lv_iinc (v := x5_3) (lv' := [(5, .int x5_3), (0, .ref (ad 0)), (1, .int x1), (2, .int x2), (3, .int x3), (4, .int x4)]) hx hb dX7_taker_67 hl (k := 5) rfl (by rw [ex5_3]; rfl) (by decide) rfl (fun ls hl => ?_)
      have h := h x5_3 ex5_3
      refine lv_goto (tgt := 51) hx hb dX7_taker_70 (by decide) ?_
      replace hl := lv_sub hl [1, 2, 3, 4, 5, 0] rfl
      exact ih x1 x2 x3 x4 x5_3 S_2 _ _ _ h hw hl
set_option maxHeartbeats 4000000 in
set_option maxRecDepth 100000 in
theorem mb_X7_taker_16 {p : Program} {l : Launch} {e : Env} {s : State} {m : MethodId} {args : Array Value} {below : List Frame} {meth : Method} {c : Code} {D : va_G} {ad : Nat → Nat} {cI cJ cZ : ClassId} {A : Nat → Prop} {post : Int32 → MS → Prop} (C0 : Cx p s m args meth c cX7_taker 7 RX7 (some .int) D cI cJ cZ A) :
 ∀ (n : Nat) (x1 : Int32) (x2 : Int32) (x3 : Int32) (x4 : Int32) (S : MS) (H : Heap) (locs : List Loc) (ls : Array Slot), wp_X7_taker_16 post n x1 x2 x3 x4 S → Wd (WM ad cI cJ cZ) D A s.heap H locs S → lv_has ls 7 [(0, .ref (ad 0)), (1, .int x1), (2, .int x2), (3, .int x3), (4, .int x4)] → W p l e rm_X7_taker s m args below meth c H locs 0 0 (QI (WM ad cI cJ cZ) D A s args below post) (F0 m 16 ls []) := by
  have hx := C0.1
  have hb := C0.2.1
  intro n
  induction n with
  | zero => intro x1 x2 x3 x4 S H locs ls h; exact h.elim
  | succ n ih =>
    intro x1 x2 x3 x4 S H locs ls h hw hl
    replace h : ws_X7_taker_16 (wp_X7_taker_16  post n)  post x1 x2 x3 x4 S := h
    unfold ws_X7_taker_16 at h
    refine lv_iload hx hb dX7_taker_16 (lv_at hl 4 rfl) ?_
    refine lv_sipush (v := 150) hx hb dX7_taker_18 (by decide) ?_
    refine lv_icmp_ge (tgt := 264) hx hb dX7_taker_21 (by decide) (fun c21 => ?_) (fun c21 => ?_)
    · have h := h.1 c21
      refine lv_iconst (v := -1) hx hb dX7_taker_264 (by decide) ?_
      exact rtI C0 hw h dX7_taker_265
    · have h := h.2 c21
      refine lv_aload_n hx hb dX7_taker_24 rfl (lv_at hl 0 rfl) ?_
      refine gf_X7_come C0 hw dX7_taker_25 ?_
      refine lv_iload hx hb dX7_taker_28 (lv_at hl 4 rfl) ?_
      refine ld_M_come C0 hw h.1 dX7_taker_30 ?_
      have h := h.2
      refine lv_if_eq (tgt := 258) hx hb dX7_taker_31 (by decide) (fun c31 => ?_) (fun c31 => ?_)
      · have h := h.1 c31
        replace hl := lv_sub hl [0, 1, 2, 3, 4] rfl
        exact mb_X7_taker_258 C0 _ ih x1 x2 x3 x4 S _ _ ls h hw hl
      · have h := h.2 c31
        refine lv_aload_n hx hb dX7_taker_34 rfl (lv_at hl 0 rfl) ?_
        refine lv_iload hx hb dX7_taker_35 (lv_at hl 4 rfl) ?_
        refine lv_iload_n hx hb dX7_taker_37 rfl (lv_at hl 2 rfl) ?_
        refine lv_iload_n hx hb dX7_taker_38 rfl (lv_at hl 3 rfl) ?_
        refine clVI (As := [.int x4, .int x2, .int x3]) (rest := []) (ci := 6) (k := 0) C0 (m_X7_takes l D ad cI cJ cZ S x4 x2 x3 _ h) cal_X7_takes kw_337 kw_336 kw_335 rfl rfl rfl rfl hl.1 rfl (Nat.le_of_ble_eq_true rfl) ⟨Nat.le_of_ble_eq_true rfl, Nat.le_of_ble_eq_true rfl⟩ rfl rfl dX7_taker_39 hw (fun r39 S39 H locs h hw => ?_)
        replace h := h
        refine lv_if_ne (tgt := 48) hx hb dX7_taker_42 (by decide) (fun c42 => ?_) (fun c42 => ?_)
        · have h := h.1 c42
          refine lv_iconst (v := 0) hx hb dX7_taker_48 (by decide) ?_
          refine lv_istore (lv' := [(5, .int (0 : Int32)), (0, .ref (ad 0)), (1, .int x1), (2, .int x2), (3, .int x3), (4, .int x4)]) hx hb dX7_taker_49 hl (by decide) rfl (fun ls hl => ?_)
          replace hl := lv_sub hl [1, 2, 3, 4, 5, 0] rfl
          obtain ⟨n, h⟩ := h
          exact mb_X7_taker_51 C0 _ (fun x1 x2 x3 x4 S H locs ls h hw hl => mb_X7_taker_258 C0 _ ih x1 x2 x3 x4 S _ _ ls h hw hl) n x1 x2 x3 x4 (0 : Int32) S39 _ _ ls h hw hl
        · have h := h.2 c42
          refine lv_goto (tgt := 258) hx hb dX7_taker_45 (by decide) ?_
          replace hl := lv_sub hl [0, 1, 2, 3, 4] rfl
          exact mb_X7_taker_258 C0 _ ih x1 x2 x3 x4 S39 _ _ ls h hw hl
set_option maxHeartbeats 4000000 in
set_option maxRecDepth 100000 in
theorem m_X7_taker (l : Launch) (D : va_G) (ad : Nat → Nat) (cI cJ cZ : ClassId) (S : MS) (x1 : Int32) (post : Int32 → MS → Prop) (h : wp_X7_taker S x1 post) : CI (WM ad cI cJ cZ) D cI cJ cZ l yX7_taker (.code yX7_taker cX7_taker 7 (some .int) :: gt) rm_X7_taker S [.ref (ad 0), .int x1] post := by
  refine enI (by decide) (Nat.le_of_ble_eq_true rfl) ?_
  intro p e s m below meth c A ls C0 hw hl
  have C0 : Cx p s m _ meth c cX7_taker 7 RX7 (some .int) D cI cJ cZ A := C0
  have hl : lv_has ls 7 [(0, .ref (ad 0)), (1, .int x1)] := hl
  have hx := C0.1
  have hb := C0.2.1
  unfold wp_X7_taker at h
  refine lv_aload_n hx hb dX7_taker_0 rfl (lv_at hl 0 rfl) ?_
  refine gf_X7_of C0 hw dX7_taker_1 ?_
  refine lv_iload_n hx hb dX7_taker_4 rfl (lv_at hl 1 rfl) ?_
  refine ld_M_of C0 hw h.1 dX7_taker_5 ?_
  have h := h.2
  refine lv_topi (fun x2_1 ex2_1 => ?_)
  have h := h x2_1 ex2_1
  refine lv_istore_n (lv' := [(2, .int x2_1), (0, .ref (ad 0)), (1, .int x1)]) hx hb dX7_taker_6 rfl hl (by decide) rfl (fun ls hl => ?_)
  refine lv_aload_n hx hb dX7_taker_7 rfl (lv_at hl 1 rfl) ?_
  refine lv_iload_n hx hb dX7_taker_8 rfl (lv_at hl 2 rfl) ?_
  refine clVI (As := [.int x1]) (rest := []) (ci := 6) (k := 0) C0 (m_X7_lackedBy l D ad cI cJ cZ S x1 _ h) cal_X7_lackedBy kw_346 kw_345 kw_344 rfl rfl rfl rfl hl.1 rfl (Nat.le_of_ble_eq_true rfl) ⟨Nat.le_of_ble_eq_true rfl, Nat.le_of_ble_eq_true rfl⟩ rfl rfl dX7_taker_9 hw (fun r9 S9 H locs h hw => ?_)
  replace h := h
  refine lv_istore_n (lv' := [(3, .int r9), (2, .int x2_1), (0, .ref (ad 0)), (1, .int x1)]) hx hb dX7_taker_12 rfl hl (by decide) rfl (fun ls hl => ?_)
  refine lv_iconst (v := 0) hx hb dX7_taker_13 (by decide) ?_
  refine lv_istore (lv' := [(4, .int (0 : Int32)), (3, .int r9), (2, .int x2_1), (0, .ref (ad 0)), (1, .int x1)]) hx hb dX7_taker_14 hl (by decide) rfl (fun ls hl => ?_)
  replace hl := lv_sub hl [3, 4, 2, 1, 0] rfl
  obtain ⟨n, h⟩ := h
  exact mb_X7_taker_16 C0 n x1 x2_1 r9 (0 : Int32) S9 _ _ ls h hw hl
abbrev rm_X7_cell : Room := { frames := 0, cells := 0, slots := 0, locals := 0 }
set_option maxHeartbeats 4000000 in
set_option maxRecDepth 100000 in
theorem m_X7_cell (l : Launch) (D : va_G) (ad : Nat → Nat) (cI cJ cZ : ClassId) (S : MS) (x1 : Int32) (x2 : Int32) (x3 : Int32) (post : Int32 → MS → Prop) (h : wp_X7_cell S x1 x2 x3 post) : CI (WM ad cI cJ cZ) D cI cJ cZ l yX7_cell (.code yX7_cell cX7_cell 4 (some .int) :: gt) rm_X7_cell S [.ref (ad 0), .int x1, .int x2, .int x3] post := by
  refine enI (by decide) (Nat.le_of_ble_eq_true rfl) ?_
  intro p e s m below meth c A ls C0 hw hl
  have C0 : Cx p s m _ meth c cX7_cell 4 RX7 (some .int) D cI cJ cZ A := C0
  have hl : lv_has ls 4 [(0, .ref (ad 0)), (1, .int x1), (2, .int x2), (3, .int x3)] := hl
  have hx := C0.1
  have hb := C0.2.1
  unfold wp_X7_cell at h
  refine lv_sipush (v := 150) hx hb dX7_cell_0 (by decide) ?_
  refine lv_iload_n hx hb dX7_cell_3 rfl (lv_at hl 1 rfl) ?_
  refine lv_imul hx hb dX7_cell_4 ?_
  refine lv_iload_n hx hb dX7_cell_5 rfl (lv_at hl 2 rfl) ?_
  refine lv_iadd hx hb dX7_cell_6 ?_
  refine lv_bipush (v := 16) hx hb dX7_cell_7 (by decide) ?_
  refine lv_imul hx hb dX7_cell_9 ?_
  refine lv_iload_n hx hb dX7_cell_10 rfl (lv_at hl 3 rfl) ?_
  refine lv_iadd hx hb dX7_cell_11 ?_
  exact rtI C0 hw h dX7_cell_12
abbrev rm_X7_isUsed : Room := { frames := 1, cells := 0, slots := 0, locals := 22 }
set_option maxHeartbeats 4000000 in
set_option maxRecDepth 100000 in
theorem m_X7_isUsed (l : Launch) (D : va_G) (ad : Nat → Nat) (cI cJ cZ : ClassId) (S : MS) (x1 : Int32) (x2 : Int32) (post : Int32 → MS → Prop) (h : wp_X7_isUsed S x1 x2 post) : CI (WM ad cI cJ cZ) D cI cJ cZ l yX7_isUsed (.code yX7_isUsed cX7_isUsed 3 (some .boolean) :: gt) rm_X7_isUsed S [.ref (ad 0), .int x1, .int x2] post := by
  refine enI (by decide) (Nat.le_of_ble_eq_true rfl) ?_
  intro p e s m below meth c A ls C0 hw hl
  have C0 : Cx p s m _ meth c cX7_isUsed 3 RX7 (some .boolean) D cI cJ cZ A := C0
  have hl : lv_has ls 3 [(0, .ref (ad 0)), (1, .int x1), (2, .int x2)] := hl
  have hx := C0.1
  have hb := C0.2.1
  unfold wp_X7_isUsed at h
  refine lv_aload_n hx hb dX7_isUsed_0 rfl (lv_at hl 0 rfl) ?_
  refine gf_X7_come C0 hw dX7_isUsed_1 ?_
  refine lv_iload_n hx hb dX7_isUsed_4 rfl (lv_at hl 1 rfl) ?_
  refine ld_M_come C0 hw h.1 dX7_isUsed_5 ?_
  have h := h.2
  refine lv_if_eq (tgt := 36) hx hb dX7_isUsed_6 (by decide) (fun c6 => ?_) (fun c6 => ?_)
  · have h := h.1 c6
    refine lv_iconst (v := 0) hx hb dX7_isUsed_36 (by decide) ?_
    exact rtZ C0 hw rfl h dX7_isUsed_37
  · have h := h.2 c6
    refine lv_aload_n hx hb dX7_isUsed_9 rfl (lv_at hl 0 rfl) ?_
    refine lv_iload_n hx hb dX7_isUsed_10 rfl (lv_at hl 1 rfl) ?_
    refine lv_iload_n hx hb dX7_isUsed_11 rfl (lv_at hl 2 rfl) ?_
    refine clVI (As := [.int x1, .int x2]) (rest := []) (ci := 6) (k := 0) C0 (m_X7_renews l D ad cI cJ cZ S x1 x2 _ h) cal_X7_renews kw_322 kw_321 kw_320 rfl rfl rfl rfl hl.1 rfl (Nat.le_of_ble_eq_true rfl) ⟨Nat.le_of_ble_eq_true rfl, Nat.le_of_ble_eq_true rfl⟩ rfl rfl dX7_isUsed_12 hw (fun r12 S12 H locs h hw => ?_)
    replace h := h
    refine lv_if_ne (tgt := 36) hx hb dX7_isUsed_15 (by decide) (fun c15 => ?_) (fun c15 => ?_)
    · have h := h.1 c15
      refine lv_iconst (v := 0) hx hb dX7_isUsed_36 (by decide) ?_
      exact rtZ C0 hw rfl h dX7_isUsed_37
    · have h := h.2 c15
      refine lv_aload_n hx hb dX7_isUsed_18 rfl (lv_at hl 0 rfl) ?_
      refine gf_X7_used C0 hw dX7_isUsed_19 ?_
      refine lv_bipush (v := 16) hx hb dX7_isUsed_22 (by decide) ?_
      refine lv_iload_n hx hb dX7_isUsed_24 rfl (lv_at hl 1 rfl) ?_
      refine lv_imul hx hb dX7_isUsed_25 ?_
      refine lv_iload_n hx hb dX7_isUsed_26 rfl (lv_at hl 2 rfl) ?_
      refine lv_iadd hx hb dX7_isUsed_27 ?_
      refine ld_M_used C0 hw h.1 dX7_isUsed_28 ?_
      have h := h.2
      refine lv_if_eq (tgt := 36) hx hb dX7_isUsed_29 (by decide) (fun c29 => ?_) (fun c29 => ?_)
      · have h := h.1 c29
        refine lv_iconst (v := 0) hx hb dX7_isUsed_36 (by decide) ?_
        exact rtZ C0 hw rfl h dX7_isUsed_37
      · have h := h.2 c29
        refine lv_iconst (v := 1) hx hb dX7_isUsed_32 (by decide) ?_
        refine lv_goto (tgt := 37) hx hb dX7_isUsed_33 (by decide) ?_
        exact rtZ C0 hw rfl h dX7_isUsed_37
abbrev rm_X7_isInForce : Room := { frames := 2, cells := 0, slots := 0, locals := 44 }
set_option maxHeartbeats 4000000 in
set_option maxRecDepth 100000 in
theorem mb_X7_isInForce_64 {p : Program} {l : Launch} {e : Env} {s : State} {m : MethodId} {args : Array Value} {below : List Frame} {meth : Method} {c : Code} {D : va_G} {ad : Nat → Nat} {cI cJ cZ : ClassId} {A : Nat → Prop} {post : Int32 → MS → Prop} (C0 : Cx p s m args meth c cX7_isInForce 5 RX7 (some .boolean) D cI cJ cZ A) (K5 : Int32 → Int32 → Int32 → Int32 → MS → Prop) (hK5 : ∀ (x1 : Int32) (x2 : Int32) (x3 : Int32) (x4 : Int32) (S : MS) (H : Heap) (locs : List Loc) (ls : Array Slot), K5 x1 x2 x3 x4 S → Wd (WM ad cI cJ cZ) D A s.heap H locs S → lv_has ls 5 [(0, .ref (ad 0)), (1, .int x1), (2, .int x2), (3, .int x3), (4, .int x4)] → W p l e rm_X7_isInForce s m args below meth c H locs 0 0 (QI (WM ad cI cJ cZ) D A s args below post) (F0 m 5 ls [])) :
 ∀ (x1 : Int32) (x2 : Int32) (x4 : Int32) (k0 : Int32) (S : MS) (H : Heap) (locs : List Loc) (ls : Array Slot), wp_X7_isInForce_64 K5 post x1 x2 x4 k0 S → Wd (WM ad cI cJ cZ) D A s.heap H locs S → lv_has ls 5 [(0, .ref (ad 0)), (1, .int x1), (2, .int x2), (4, .int x4)] → W p l e rm_X7_isInForce s m args below meth c H locs 0 0 (QI (WM ad cI cJ cZ) D A s args below post) (F0 m 64 ls [.int k0]) := by
  have hx := C0.1
  have hb := C0.2.1
  intro x1 x2 x4 k0 S H locs ls h hw hl
  unfold wp_X7_isInForce_64 at h
  refine lv_istore_n (lv' := [(3, .int k0), (0, .ref (ad 0)), (1, .int x1), (2, .int x2), (4, .int x4)]) hx hb dX7_isInForce_64 rfl hl (by decide) rfl (fun ls hl => ?_)
  obtain ⟨x4_1, ex4_1⟩ : ∃ y : Int32, y = x4 + (1 : Int32) := ⟨_, rfl⟩
  refine lv_iinc (v := x4_1) (lv' := [(4, .int x4_1), (3, .int k0), (0, .ref (ad 0)), (1, .int x1), (2, .int x2)]) hx hb dX7_isInForce_65 hl (k := 4) rfl (by rw [ex4_1]; rfl) (by decide) rfl (fun ls hl => ?_)
  have h := h x4_1 ex4_1
  refine lv_goto (tgt := 5) hx hb dX7_isInForce_68 (by decide) ?_
  replace hl := lv_sub hl [2, 3, 4, 1, 0] rfl
  exact hK5 x1 x2 k0 x4_1 S _ _ _ h hw hl
set_option maxHeartbeats 4000000 in
set_option maxRecDepth 100000 in
theorem mb_X7_isInForce_59 {p : Program} {l : Launch} {e : Env} {s : State} {m : MethodId} {args : Array Value} {below : List Frame} {meth : Method} {c : Code} {D : va_G} {ad : Nat → Nat} {cI cJ cZ : ClassId} {A : Nat → Prop} {post : Int32 → MS → Prop} (C0 : Cx p s m args meth c cX7_isInForce 5 RX7 (some .boolean) D cI cJ cZ A) (K64 : Int32 → Int32 → Int32 → Int32 → MS → Prop) (hK64 : ∀ (x1 : Int32) (x2 : Int32) (x4 : Int32) (k0 : Int32) (S : MS) (H : Heap) (locs : List Loc) (ls : Array Slot), K64 x1 x2 x4 k0 S → Wd (WM ad cI cJ cZ) D A s.heap H locs S → lv_has ls 5 [(0, .ref (ad 0)), (1, .int x1), (2, .int x2), (4, .int x4)] → W p l e rm_X7_isInForce s m args below meth c H locs 0 0 (QI (WM ad cI cJ cZ) D A s args below post) (F0 m 64 ls [.int k0])) :
 ∀ (x1 : Int32) (x2 : Int32) (x4 : Int32) (S : MS) (H : Heap) (locs : List Loc) (ls : Array Slot), wp_X7_isInForce_59 K64 post x1 x2 x4 S → Wd (WM ad cI cJ cZ) D A s.heap H locs S → lv_has ls 5 [(0, .ref (ad 0)), (1, .int x1), (2, .int x2), (4, .int x4)] → W p l e rm_X7_isInForce s m args below meth c H locs 0 0 (QI (WM ad cI cJ cZ) D A s args below post) (F0 m 59 ls []) := by
  have hx := C0.1
  have hb := C0.2.1
  intro x1 x2 x4 S H locs ls h hw hl
  unfold wp_X7_isInForce_59 at h
  refine lv_iconst (v := 1) hx hb dX7_isInForce_59 (by decide) ?_
  refine lv_goto (tgt := 64) hx hb dX7_isInForce_60 (by decide) ?_
  replace hl := lv_sub hl [0, 1, 2, 3] rfl
  exact hK64 x1 x2 x4 (1 : Int32) S _ _ _ h hw hl
set_option maxHeartbeats 4000000 in
set_option maxRecDepth 100000 in
theorem mb_X7_isInForce_63 {p : Program} {l : Launch} {e : Env} {s : State} {m : MethodId} {args : Array Value} {below : List Frame} {meth : Method} {c : Code} {D : va_G} {ad : Nat → Nat} {cI cJ cZ : ClassId} {A : Nat → Prop} {post : Int32 → MS → Prop} (C0 : Cx p s m args meth c cX7_isInForce 5 RX7 (some .boolean) D cI cJ cZ A) (K64 : Int32 → Int32 → Int32 → Int32 → MS → Prop) (hK64 : ∀ (x1 : Int32) (x2 : Int32) (x4 : Int32) (k0 : Int32) (S : MS) (H : Heap) (locs : List Loc) (ls : Array Slot), K64 x1 x2 x4 k0 S → Wd (WM ad cI cJ cZ) D A s.heap H locs S → lv_has ls 5 [(0, .ref (ad 0)), (1, .int x1), (2, .int x2), (4, .int x4)] → W p l e rm_X7_isInForce s m args below meth c H locs 0 0 (QI (WM ad cI cJ cZ) D A s args below post) (F0 m 64 ls [.int k0])) :
 ∀ (x1 : Int32) (x2 : Int32) (x4 : Int32) (S : MS) (H : Heap) (locs : List Loc) (ls : Array Slot), wp_X7_isInForce_63 K64 post x1 x2 x4 S → Wd (WM ad cI cJ cZ) D A s.heap H locs S → lv_has ls 5 [(0, .ref (ad 0)), (1, .int x1), (2, .int x2), (4, .int x4)] → W p l e rm_X7_isInForce s m args below meth c H locs 0 0 (QI (WM ad cI cJ cZ) D A s args below post) (F0 m 63 ls []) := by
  have hx := C0.1
  have hb := C0.2.1
  intro x1 x2 x4 S H locs ls h hw hl
  unfold wp_X7_isInForce_63 at h
  refine lv_iconst (v := 0) hx hb dX7_isInForce_63 (by decide) ?_
  replace hl := lv_sub hl [0, 1, 2, 3] rfl
  exact hK64 x1 x2 x4 (0 : Int32) S _ _ _ h hw hl
set_option maxHeartbeats 4000000 in
set_option maxRecDepth 100000 in
theorem mb_X7_isInForce_5 {p : Program} {l : Launch} {e : Env} {s : State} {m : MethodId} {args : Array Value} {below : List Frame} {meth : Method} {c : Code} {D : va_G} {ad : Nat → Nat} {cI cJ cZ : ClassId} {A : Nat → Prop} {post : Int32 → MS → Prop} (C0 : Cx p s m args meth c cX7_isInForce 5 RX7 (some .boolean) D cI cJ cZ A) :
 ∀ (n : Nat) (x1 : Int32) (x2 : Int32) (x3 : Int32) (x4 : Int32) (S : MS) (H : Heap) (locs : List Loc) (ls : Array Slot), wp_X7_isInForce_5 post n x1 x2 x3 x4 S → Wd (WM ad cI cJ cZ) D A s.heap H locs S → lv_has ls 5 [(0, .ref (ad 0)), (1, .int x1), (2, .int x2), (3, .int x3), (4, .int x4)] → W p l e rm_X7_isInForce s m args below meth c H locs 0 0 (QI (WM ad cI cJ cZ) D A s args below post) (F0 m 5 ls []) := by
  have hx := C0.1
  have hb := C0.2.1
  intro n
  induction n with
  | zero => intro x1 x2 x3 x4 S H locs ls h; exact h.elim
  | succ n ih =>
    intro x1 x2 x3 x4 S H locs ls h hw hl
    replace h : ws_X7_isInForce_5 (wp_X7_isInForce_5  post n)  post x1 x2 x3 x4 S := h
    unfold ws_X7_isInForce_5 at h
    refine lv_iload hx hb dX7_isInForce_5 (lv_at hl 4 rfl) ?_
    refine lv_aload_n hx hb dX7_isInForce_7 rfl (lv_at hl 0 rfl) ?_
    refine gf_X7_variables C0 hw dX7_isInForce_8 ?_
    refine lv_icmp_ge (tgt := 71) hx hb dX7_isInForce_11 (by decide) (fun c11 => ?_) (fun c11 => ?_)
    · have h := h.1 c11
      refine lv_iload_n hx hb dX7_isInForce_71 rfl (lv_at hl 3 rfl) ?_
      refine lv_if_eq (tgt := 88) hx hb dX7_isInForce_72 (by decide) (fun c72 => ?_) (fun c72 => ?_)
      · have h := h.1 c72
        refine lv_iconst (v := 0) hx hb dX7_isInForce_88 (by decide) ?_
        exact rtZ C0 hw rfl h dX7_isInForce_89
      · have h := h.2 c72
        refine lv_aload_n hx hb dX7_isInForce_75 rfl (lv_at hl 0 rfl) ?_
        refine gf_X7_come C0 hw dX7_isInForce_76 ?_
        refine lv_iload_n hx hb dX7_isInForce_79 rfl (lv_at hl 2 rfl) ?_
        refine ld_M_come C0 hw h.1 dX7_isInForce_80 ?_
        have h := h.2
        refine lv_if_eq (tgt := 88) hx hb dX7_isInForce_81 (by decide) (fun c81 => ?_) (fun c81 => ?_)
        · have h := h.1 c81
          refine lv_iconst (v := 0) hx hb dX7_isInForce_88 (by decide) ?_
          exact rtZ C0 hw rfl h dX7_isInForce_89
        · have h := h.2 c81
          refine lv_iconst (v := 1) hx hb dX7_isInForce_84 (by decide) ?_
          refine lv_goto (tgt := 89) hx hb dX7_isInForce_85 (by decide) ?_
          exact rtZ C0 hw rfl h dX7_isInForce_89
    · have h := h.2 c11
      refine lv_iload_n hx hb dX7_isInForce_14 rfl (lv_at hl 3 rfl) ?_
      refine lv_if_ne (tgt := 59) hx hb dX7_isInForce_15 (by decide) (fun c15 => ?_) (fun c15 => ?_)
      · have h := h.1 c15
        replace hl := lv_sub hl [0, 1, 2, 4] rfl
        exact mb_X7_isInForce_59 C0 _ (fun x1 x2 x4 k0 S H locs ls h hw hl => mb_X7_isInForce_64 C0 _ ih x1 x2 x4 k0 S _ _ ls h hw hl) x1 x2 x4 S _ _ ls h hw hl
      · have h := h.2 c15
        refine lv_aload_n hx hb dX7_isInForce_18 rfl (lv_at hl 0 rfl) ?_
        refine gf_X7_sort C0 hw dX7_isInForce_19 ?_
        refine lv_iload hx hb dX7_isInForce_22 (lv_at hl 4 rfl) ?_
        refine ld_M_sort C0 hw h.1 dX7_isInForce_24 ?_
        have h := h.2
        refine lv_if_eq (tgt := 63) hx hb dX7_isInForce_25 (by decide) (fun c25 => ?_) (fun c25 => ?_)
        · have h := h.1 c25
          replace hl := lv_sub hl [0, 1, 2, 4] rfl
          exact mb_X7_isInForce_63 C0 _ (fun x1 x2 x4 k0 S H locs ls h hw hl => mb_X7_isInForce_64 C0 _ ih x1 x2 x4 k0 S _ _ ls h hw hl) x1 x2 x4 S _ _ ls h hw hl
        · have h := h.2 c25
          refine lv_aload_n hx hb dX7_isInForce_28 rfl (lv_at hl 0 rfl) ?_
          refine gf_X7_holds C0 hw dX7_isInForce_29 ?_
          refine lv_aload_n hx hb dX7_isInForce_32 rfl (lv_at hl 0 rfl) ?_
          refine lv_aload_n hx hb dX7_isInForce_33 rfl (lv_at hl 0 rfl) ?_
          refine gf_X7_rowOf C0 hw dX7_isInForce_34 ?_
          refine lv_iload_n hx hb dX7_isInForce_37 rfl (lv_at hl 1 rfl) ?_
          refine ld_M_rowOf C0 hw h.1 dX7_isInForce_38 ?_
          have h := h.2
          refine lv_iload_n hx hb dX7_isInForce_39 rfl (lv_at hl 2 rfl) ?_
          refine lv_iload hx hb dX7_isInForce_40 (lv_at hl 4 rfl) ?_
          refine clVI (As := [.int (gM_rowOf S (x1).toNatClampNeg), .int x2, .int x4]) (rest := [.ref (ad 12)]) (ci := 6) (k := 0) C0 (m_X7_cell l D ad cI cJ cZ S (gM_rowOf S (x1).toNatClampNeg) x2 x4 _ h) cal_X7_cell kw_352 kw_351 kw_350 rfl rfl rfl rfl hl.1 rfl (Nat.le_of_ble_eq_true rfl) ⟨Nat.le_of_ble_eq_true rfl, Nat.le_of_ble_eq_true rfl⟩ rfl rfl dX7_isInForce_42 hw (fun r42 S42 H locs h hw => ?_)
          replace h := h
          refine ld_M_holds C0 hw h.1 dX7_isInForce_45 ?_
          have h := h.2
          refine lv_if_eq (tgt := 63) hx hb dX7_isInForce_46 (by decide) (fun c46 => ?_) (fun c46 => ?_)
          · have h := h.1 c46
            replace hl := lv_sub hl [0, 1, 2, 4] rfl
            exact mb_X7_isInForce_63 C0 _ (fun x1 x2 x4 k0 S H locs ls h hw hl => mb_X7_isInForce_64 C0 _ ih x1 x2 x4 k0 S _ _ ls h hw hl) x1 x2 x4 S42 _ _ ls h hw hl
          · have h := h.2 c46
            refine lv_aload_n hx hb dX7_isInForce_49 rfl (lv_at hl 0 rfl) ?_
            refine lv_iload_n hx hb dX7_isInForce_50 rfl (lv_at hl 2 rfl) ?_
            refine lv_iload hx hb dX7_isInForce_51 (lv_at hl 4 rfl) ?_
            refine clVI (As := [.int x2, .int x4]) (rest := []) (ci := 6) (k := 0) C0 (m_X7_isUsed l D ad cI cJ cZ S42 x2 x4 _ h) cal_X7_isUsed kw_355 kw_354 kw_353 rfl rfl rfl rfl hl.1 rfl (Nat.le_of_ble_eq_true rfl) ⟨Nat.le_of_ble_eq_true rfl, Nat.le_of_ble_eq_true rfl⟩ rfl rfl dX7_isInForce_53 hw (fun r53 S53 H locs h hw => ?_)
            replace h := h
            refine lv_if_eq (tgt := 63) hx hb dX7_isInForce_56 (by decide) (fun c56 => ?_) (fun c56 => ?_)
            · have h := h.1 c56
              replace hl := lv_sub hl [0, 1, 2, 4] rfl
              exact mb_X7_isInForce_63 C0 _ (fun x1 x2 x4 k0 S H locs ls h hw hl => mb_X7_isInForce_64 C0 _ ih x1 x2 x4 k0 S _ _ ls h hw hl) x1 x2 x4 S53 _ _ ls h hw hl
            · have h := h.2 c56
              replace hl := lv_sub hl [0, 1, 2, 4] rfl
              exact mb_X7_isInForce_59 C0 _ (fun x1 x2 x4 k0 S H locs ls h hw hl => mb_X7_isInForce_64 C0 _ ih x1 x2 x4 k0 S _ _ ls h hw hl) x1 x2 x4 S53 _ _ ls h hw hl
set_option maxHeartbeats 4000000 in
set_option maxRecDepth 100000 in
theorem m_X7_isInForce (l : Launch) (D : va_G) (ad : Nat → Nat) (cI cJ cZ : ClassId) (S : MS) (x1 : Int32) (x2 : Int32) (post : Int32 → MS → Prop) (h : wp_X7_isInForce S x1 x2 post) : CI (WM ad cI cJ cZ) D cI cJ cZ l yX7_isInForce (.code yX7_isInForce cX7_isInForce 5 (some .boolean) :: gt) rm_X7_isInForce S [.ref (ad 0), .int x1, .int x2] post := by
  refine enI (by decide) (Nat.le_of_ble_eq_true rfl) ?_
  intro p e s m below meth c A ls C0 hw hl
  have C0 : Cx p s m _ meth c cX7_isInForce 5 RX7 (some .boolean) D cI cJ cZ A := C0
  have hl : lv_has ls 5 [(0, .ref (ad 0)), (1, .int x1), (2, .int x2)] := hl
  have hx := C0.1
  have hb := C0.2.1
  unfold wp_X7_isInForce at h
  refine lv_iconst (v := 0) hx hb dX7_isInForce_0 (by decide) ?_
  refine lv_istore_n (lv' := [(3, .int (0 : Int32)), (0, .ref (ad 0)), (1, .int x1), (2, .int x2)]) hx hb dX7_isInForce_1 rfl hl (by decide) rfl (fun ls hl => ?_)
  refine lv_iconst (v := 0) hx hb dX7_isInForce_2 (by decide) ?_
  refine lv_istore (lv' := [(4, .int (0 : Int32)), (3, .int (0 : Int32)), (0, .ref (ad 0)), (1, .int x1), (2, .int x2)]) hx hb dX7_isInForce_3 hl (by decide) rfl (fun ls hl => ?_)
  replace hl := lv_sub hl [2, 3, 4, 1, 0] rfl
  obtain ⟨n, h⟩ := h
  exact mb_X7_isInForce_5 C0 n x1 x2 (0 : Int32) (0 : Int32) S _ _ ls h hw hl
abbrev rm_X7_begins_ : Room := { frames := 0, cells := 0, slots := 0, locals := 0 }
set_option maxHeartbeats 4000000 in
set_option maxRecDepth 100000 in
theorem mb_X7_begins__32 {p : Program} {l : Launch} {e : Env} {s : State} {m : MethodId} {args : Array Value} {below : List Frame} {meth : Method} {c : Code} {D : va_G} {ad : Nat → Nat} {cI cJ cZ : ClassId} {A : Nat → Prop} {post : Int32 → MS → Prop} (C0 : Cx p s m args meth c cX7_begins_ 4 RX7 (some .boolean) D cI cJ cZ A) :
 ∀ (x3 : Int32) (S : MS) (H : Heap) (locs : List Loc) (ls : Array Slot), wp_X7_begins__32 post x3 S → Wd (WM ad cI cJ cZ) D A s.heap H locs S → lv_has ls 4 [(3, .int x3)] → W p l e rm_X7_begins_ s m args below meth c H locs 0 0 (QI (WM ad cI cJ cZ) D A s args below post) (F0 m 32 ls []) := by
  have hx := C0.1
  have hb := C0.2.1
  intro x3 S H locs ls h hw hl
  unfold wp_X7_begins__32 at h
  refine lv_iload_n hx hb dX7_begins__32 rfl (lv_at hl 0 rfl) ?_
  refine lv_if_ne (tgt := 40) hx hb dX7_begins__33 (by decide) (fun c33 => ?_) (fun c33 => ?_)
  · have h := h.1 c33
    refine lv_iconst (v := 0) hx hb dX7_begins__40 (by decide) ?_
    exact rtZ C0 hw rfl h dX7_begins__41
  · have h := h.2 c33
    refine lv_iconst (v := 1) hx hb dX7_begins__36 (by decide) ?_
    refine lv_goto (tgt := 41) hx hb dX7_begins__37 (by decide) ?_
    exact rtZ C0 hw rfl h dX7_begins__41
set_option maxHeartbeats 4000000 in
set_option maxRecDepth 100000 in
theorem mb_X7_begins__4 {p : Program} {l : Launch} {e : Env} {s : State} {m : MethodId} {args : Array Value} {below : List Frame} {meth : Method} {c : Code} {D : va_G} {ad : Nat → Nat} {cI cJ cZ : ClassId} {A : Nat → Prop} {post : Int32 → MS → Prop} (C0 : Cx p s m args meth c cX7_begins_ 4 RX7 (some .boolean) D cI cJ cZ A) :
 ∀ (n : Nat) (x2 : Int32) (x3 : Int32) (S : MS) (H : Heap) (locs : List Loc) (ls : Array Slot), wp_X7_begins__4 post n x2 x3 S → Wd (WM ad cI cJ cZ) D A s.heap H locs S → lv_has ls 4 [(2, .int x2), (3, .int x3)] → W p l e rm_X7_begins_ s m args below meth c H locs 0 0 (QI (WM ad cI cJ cZ) D A s args below post) (F0 m 4 ls []) := by
  have hx := C0.1
  have hb := C0.2.1
  intro n
  induction n with
  | zero => intro x2 x3 S H locs ls h; exact h.elim
  | succ n ih =>
    intro x2 x3 S H locs ls h hw hl
    replace h : ws_X7_begins__4 (wp_X7_begins__4  post n)  post x2 x3 S := h
    unfold ws_X7_begins__4 at h
    refine lv_iload_n hx hb dX7_begins__4 rfl (lv_at hl 1 rfl) ?_
    refine lv_if_le (tgt := 32) hx hb dX7_begins__5 (by decide) (fun c5 => ?_) (fun c5 => ?_)
    · have h := h.1 c5
      replace hl := lv_sub hl [1] rfl
      exact mb_X7_begins__32 C0 x3 S _ _ ls h hw hl
    · have h := h.2 c5
      refine lv_iload_n hx hb dX7_begins__8 rfl (lv_at hl 0 rfl) ?_
      refine lv_bipush (v := 8) hx hb dX7_begins__9 (by decide) ?_
      refine lv_irem hx hb dX7_begins__11 (by decide) ?_
      refine lv_iload_n hx hb dX7_begins__12 rfl (lv_at hl 1 rfl) ?_
      refine lv_bipush (v := 8) hx hb dX7_begins__13 (by decide) ?_
      refine lv_irem hx hb dX7_begins__15 (by decide) ?_
      refine lv_icmp_ne (tgt := 32) hx hb dX7_begins__16 (by decide) (fun c16 => ?_) (fun c16 => ?_)
      · have h := h.1 c16
        replace hl := lv_sub hl [1] rfl
        exact mb_X7_begins__32 C0 x3 S _ _ ls h hw hl
      · have h := h.2 c16
        refine lv_iload_n hx hb dX7_begins__19 rfl (lv_at hl 0 rfl) ?_
        refine lv_bipush (v := 8) hx hb dX7_begins__20 (by decide) ?_
        refine lv_idiv hx hb dX7_begins__22 (by decide) ?_
        refine lv_topi (fun x2_1 ex2_1 => ?_)
        have h := h x2_1 ex2_1
        refine lv_istore_n (lv' := [(2, .int x2_1), (3, .int x3)]) hx hb dX7_begins__23 rfl hl (by decide) rfl (fun ls hl => ?_)
        refine lv_iload_n hx hb dX7_begins__24 rfl (lv_at hl 1 rfl) ?_
        refine lv_bipush (v := 8) hx hb dX7_begins__25 (by decide) ?_
        refine lv_idiv hx hb dX7_begins__27 (by decide) ?_
        refine lv_topi (fun x3_2 ex3_2 => ?_)
        have h := h x3_2 ex3_2
        refine lv_istore_n (lv' := [(3, .int x3_2), (2, .int x2_1)]) hx hb dX7_begins__28 rfl hl (by decide) rfl (fun ls hl => ?_)
        refine lv_goto (tgt := 4) hx hb dX7_begins__29 (by decide) ?_
        replace hl := lv_sub hl [1, 0] rfl
        exact ih x2_1 x3_2 S _ _ _ h hw hl
set_option maxHeartbeats 4000000 in
set_option maxRecDepth 100000 in
theorem m_X7_begins_ (l : Launch) (D : va_G) (ad : Nat → Nat) (cI cJ cZ : ClassId) (S : MS) (x0 : Int32) (x1 : Int32) (post : Int32 → MS → Prop) (h : wp_X7_begins_ S x0 x1 post) : CI (WM ad cI cJ cZ) D cI cJ cZ l yX7_begins_ (.code yX7_begins_ cX7_begins_ 4 (some .boolean) :: gt) rm_X7_begins_ S [.int x0, .int x1] post := by
  refine enI (by decide) (Nat.le_of_ble_eq_true rfl) ?_
  intro p e s m below meth c A ls C0 hw hl
  have C0 : Cx p s m _ meth c cX7_begins_ 4 RX7 (some .boolean) D cI cJ cZ A := C0
  have hl : lv_has ls 4 [(0, .int x0), (1, .int x1)] := hl
  have hx := C0.1
  have hb := C0.2.1
  unfold wp_X7_begins_ at h
  refine lv_iload_n hx hb dX7_begins__0 rfl (lv_at hl 0 rfl) ?_
  refine lv_istore_n (lv' := [(2, .int x0), (0, .int x0), (1, .int x1)]) hx hb dX7_begins__1 rfl hl (by decide) rfl (fun ls hl => ?_)
  refine lv_iload_n hx hb dX7_begins__2 rfl (lv_at hl 2 rfl) ?_
  refine lv_istore_n (lv' := [(3, .int x1), (2, .int x0), (0, .int x0), (1, .int x1)]) hx hb dX7_begins__3 rfl hl (by decide) rfl (fun ls hl => ?_)
  replace hl := lv_sub hl [1, 0] rfl
  obtain ⟨n, h⟩ := h
  exact mb_X7_begins__4 C0 n x0 x1 S _ _ ls h hw hl
abbrev rm_X7_clashes : Room := { frames := 1, cells := 0, slots := 0, locals := 23 }
set_option maxHeartbeats 4000000 in
set_option maxRecDepth 100000 in
theorem mb_X7_clashes_151 {p : Program} {l : Launch} {e : Env} {s : State} {m : MethodId} {args : Array Value} {below : List Frame} {meth : Method} {c : Code} {D : va_G} {ad : Nat → Nat} {cI cJ cZ : ClassId} {A : Nat → Prop} {post : Int32 → MS → Prop} (C0 : Cx p s m args meth c cX7_clashes 6 RX7 (some .boolean) D cI cJ cZ A) :
 ∀ (x1 : Int32) (x5 : Int32) (S : MS) (H : Heap) (locs : List Loc) (ls : Array Slot), wp_X7_clashes_151 post x1 x5 S → Wd (WM ad cI cJ cZ) D A s.heap H locs S → lv_has ls 6 [(0, .ref (ad 0)), (1, .int x1), (5, .int x5)] → W p l e rm_X7_clashes s m args below meth c H locs 0 0 (QI (WM ad cI cJ cZ) D A s args below post) (F0 m 151 ls []) := by
  have hx := C0.1
  have hb := C0.2.1
  intro x1 x5 S H locs ls h hw hl
  unfold wp_X7_clashes_151 at h
  refine lv_iload hx hb dX7_clashes_151 (lv_at hl 2 rfl) ?_
  refine lv_aload_n hx hb dX7_clashes_153 rfl (lv_at hl 0 rfl) ?_
  refine gf_X7_path C0 hw dX7_clashes_154 ?_
  refine lv_iload_n hx hb dX7_clashes_157 rfl (lv_at hl 1 rfl) ?_
  refine ld_M_path C0 hw h.1 dX7_clashes_158 ?_
  have h := h.2
  refine clSI (As := [.int x5, .int (gM_path S (x1).toNatClampNeg)]) (rest := []) C0 (m_X7_begins_ l D ad cI cJ cZ S x5 (gM_path S (x1).toNatClampNeg) _ h) cal_X7_begins_ kw_360 kw_359 rfl hl.1 rfl (Nat.le_of_ble_eq_true rfl) ⟨Nat.le_of_ble_eq_true rfl, Nat.le_of_ble_eq_true rfl⟩ rfl rfl dX7_clashes_159 hw (fun r159 S159 H locs h hw => ?_)
  replace h := h
  refine lv_if_ne (tgt := 179) hx hb dX7_clashes_162 (by decide) (fun c162 => ?_) (fun c162 => ?_)
  · have h := h.1 c162
    refine lv_iconst (v := 1) hx hb dX7_clashes_179 (by decide) ?_
    refine lv_goto (tgt := 184) hx hb dX7_clashes_180 (by decide) ?_
    exact rtZ C0 hw rfl h dX7_clashes_184
  · have h := h.2 c162
    refine lv_aload_n hx hb dX7_clashes_165 rfl (lv_at hl 0 rfl) ?_
    refine gf_X7_path C0 hw dX7_clashes_166 ?_
    refine lv_iload_n hx hb dX7_clashes_169 rfl (lv_at hl 1 rfl) ?_
    refine ld_M_path C0 hw h.1 dX7_clashes_170 ?_
    have h := h.2
    refine lv_iload hx hb dX7_clashes_171 (lv_at hl 2 rfl) ?_
    refine clSI (As := [.int (gM_path S159 (x1).toNatClampNeg), .int x5]) (rest := []) C0 (m_X7_begins_ l D ad cI cJ cZ S159 (gM_path S159 (x1).toNatClampNeg) x5 _ h) cal_X7_begins_ kw_360 kw_359 rfl hl.1 rfl (Nat.le_of_ble_eq_true rfl) ⟨Nat.le_of_ble_eq_true rfl, Nat.le_of_ble_eq_true rfl⟩ rfl rfl dX7_clashes_173 hw (fun r173 S173 H locs h hw => ?_)
    replace h := h
    refine lv_if_eq (tgt := 183) hx hb dX7_clashes_176 (by decide) (fun c176 => ?_) (fun c176 => ?_)
    · have h := h.1 c176
      refine lv_iconst (v := 0) hx hb dX7_clashes_183 (by decide) ?_
      exact rtZ C0 hw rfl h dX7_clashes_184
    · have h := h.2 c176
      refine lv_iconst (v := 1) hx hb dX7_clashes_179 (by decide) ?_
      refine lv_goto (tgt := 184) hx hb dX7_clashes_180 (by decide) ?_
      exact rtZ C0 hw rfl h dX7_clashes_184
set_option maxHeartbeats 4000000 in
set_option maxRecDepth 100000 in
theorem mb_X7_clashes_129 {p : Program} {l : Launch} {e : Env} {s : State} {m : MethodId} {args : Array Value} {below : List Frame} {meth : Method} {c : Code} {D : va_G} {ad : Nat → Nat} {cI cJ cZ : ClassId} {A : Nat → Prop} {post : Int32 → MS → Prop} (C0 : Cx p s m args meth c cX7_clashes 6 RX7 (some .boolean) D cI cJ cZ A) :
 ∀ (x1 : Int32) (x4 : Int32) (k0 : Int32) (S : MS) (H : Heap) (locs : List Loc) (ls : Array Slot), wp_X7_clashes_129 post x1 x4 k0 S → Wd (WM ad cI cJ cZ) D A s.heap H locs S → lv_has ls 6 [(0, .ref (ad 0)), (1, .int x1), (4, .int x4)] → W p l e rm_X7_clashes s m args below meth c H locs 0 0 (QI (WM ad cI cJ cZ) D A s args below post) (F0 m 129 ls [.int k0]) := by
  have hx := C0.1
  have hb := C0.2.1
  intro x1 x4 k0 S H locs ls h hw hl
  unfold wp_X7_clashes_129 at h
  refine lv_istore (lv' := [(5, .int k0), (0, .ref (ad 0)), (1, .int x1), (4, .int x4)]) hx hb dX7_clashes_129 hl (by decide) rfl (fun ls hl => ?_)
  refine lv_aload_n hx hb dX7_clashes_131 rfl (lv_at hl 1 rfl) ?_
  refine gf_X7_sort C0 hw dX7_clashes_132 ?_
  refine lv_aload_n hx hb dX7_clashes_135 rfl (lv_at hl 1 rfl) ?_
  refine gf_X7_to C0 hw dX7_clashes_136 ?_
  refine lv_iload_n hx hb dX7_clashes_139 rfl (lv_at hl 2 rfl) ?_
  refine ld_M_to C0 hw h.1 dX7_clashes_140 ?_
  have h := h.2
  refine ld_M_sort C0 hw h.1 dX7_clashes_141 ?_
  have h := h.2
  refine lv_iconst (v := 2) hx hb dX7_clashes_142 (by decide) ?_
  refine lv_icmp_eq (tgt := 151) hx hb dX7_clashes_143 (by decide) (fun c143 => ?_) (fun c143 => ?_)
  · have h := h.1 c143
    replace hl := lv_sub hl [1, 2, 0] rfl
    exact mb_X7_clashes_151 C0 x1 k0 S _ _ ls h hw hl
  · have h := h.2 c143
    refine lv_iload hx hb dX7_clashes_146 (lv_at hl 3 rfl) ?_
    refine lv_if_ne (tgt := 183) hx hb dX7_clashes_148 (by decide) (fun c148 => ?_) (fun c148 => ?_)
    · have h := h.1 c148
      refine lv_iconst (v := 0) hx hb dX7_clashes_183 (by decide) ?_
      exact rtZ C0 hw rfl h dX7_clashes_184
    · have h := h.2 c148
      replace hl := lv_sub hl [1, 2, 0] rfl
      exact mb_X7_clashes_151 C0 x1 k0 S _ _ ls h hw hl
set_option maxHeartbeats 4000000 in
set_option maxRecDepth 100000 in
theorem mb_X7_clashes_119 {p : Program} {l : Launch} {e : Env} {s : State} {m : MethodId} {args : Array Value} {below : List Frame} {meth : Method} {c : Code} {D : va_G} {ad : Nat → Nat} {cI cJ cZ : ClassId} {A : Nat → Prop} {post : Int32 → MS → Prop} (C0 : Cx p s m args meth c cX7_clashes 6 RX7 (some .boolean) D cI cJ cZ A) (K129 : Int32 → Int32 → Int32 → MS → Prop) (hK129 : ∀ (x1 : Int32) (x4 : Int32) (k0 : Int32) (S : MS) (H : Heap) (locs : List Loc) (ls : Array Slot), K129 x1 x4 k0 S → Wd (WM ad cI cJ cZ) D A s.heap H locs S → lv_has ls 6 [(0, .ref (ad 0)), (1, .int x1), (4, .int x4)] → W p l e rm_X7_clashes s m args below meth c H locs 0 0 (QI (WM ad cI cJ cZ) D A s args below post) (F0 m 129 ls [.int k0])) :
 ∀ (x1 : Int32) (x4 : Int32) (S : MS) (H : Heap) (locs : List Loc) (ls : Array Slot), wp_X7_clashes_119 K129 post x1 x4 S → Wd (WM ad cI cJ cZ) D A s.heap H locs S → lv_has ls 6 [(0, .ref (ad 0)), (1, .int x1), (4, .int x4)] → W p l e rm_X7_clashes s m args below meth c H locs 0 0 (QI (WM ad cI cJ cZ) D A s args below post) (F0 m 119 ls []) := by
  have hx := C0.1
  have hb := C0.2.1
  intro x1 x4 S H locs ls h hw hl
  unfold wp_X7_clashes_119 at h
  refine lv_iconst (v := 0) hx hb dX7_clashes_119 (by decide) ?_
  refine lv_goto (tgt := 129) hx hb dX7_clashes_120 (by decide) ?_
  replace hl := lv_sub hl [0, 1, 2] rfl
  exact hK129 x1 x4 (0 : Int32) S _ _ _ h hw hl
set_option maxHeartbeats 4000000 in
set_option maxRecDepth 100000 in
theorem mb_X7_clashes_105 {p : Program} {l : Launch} {e : Env} {s : State} {m : MethodId} {args : Array Value} {below : List Frame} {meth : Method} {c : Code} {D : va_G} {ad : Nat → Nat} {cI cJ cZ : ClassId} {A : Nat → Prop} {post : Int32 → MS → Prop} (C0 : Cx p s m args meth c cX7_clashes 6 RX7 (some .boolean) D cI cJ cZ A) :
 ∀ (x1 : Int32) (x2 : Int32) (x3 : Int32) (k0 : Int32) (S : MS) (H : Heap) (locs : List Loc) (ls : Array Slot), wp_X7_clashes_105 post x1 x2 x3 k0 S → Wd (WM ad cI cJ cZ) D A s.heap H locs S → lv_has ls 6 [(0, .ref (ad 0)), (1, .int x1), (2, .int x2), (3, .int x3)] → W p l e rm_X7_clashes s m args below meth c H locs 0 0 (QI (WM ad cI cJ cZ) D A s args below post) (F0 m 105 ls [.int k0]) := by
  have hx := C0.1
  have hb := C0.2.1
  intro x1 x2 x3 k0 S H locs ls h hw hl
  unfold wp_X7_clashes_105 at h
  refine lv_istore (lv' := [(4, .int k0), (0, .ref (ad 0)), (1, .int x1), (2, .int x2), (3, .int x3)]) hx hb dX7_clashes_105 hl (by decide) rfl (fun ls hl => ?_)
  refine lv_iload_n hx hb dX7_clashes_107 rfl (lv_at hl 4 rfl) ?_
  refine lv_bipush (v := 6) hx hb dX7_clashes_108 (by decide) ?_
  refine lv_icmp_eq (tgt := 119) hx hb dX7_clashes_110 (by decide) (fun c110 => ?_) (fun c110 => ?_)
  · have h := h.1 c110
    replace hl := lv_sub hl [1, 2, 0] rfl
    exact mb_X7_clashes_119 C0 _ (fun x1 x4 k0 S H locs ls h hw hl => mb_X7_clashes_129 C0 x1 x4 k0 S _ _ ls h hw hl) x1 k0 S _ _ ls h hw hl
  · have h := h.2 c110
    refine lv_iload_n hx hb dX7_clashes_113 rfl (lv_at hl 4 rfl) ?_
    refine lv_bipush (v := 8) hx hb dX7_clashes_114 (by decide) ?_
    refine lv_icmp_ne (tgt := 123) hx hb dX7_clashes_116 (by decide) (fun c116 => ?_) (fun c116 => ?_)
    · have h := h.1 c116
      refine lv_aload_n hx hb dX7_clashes_123 rfl (lv_at hl 1 rfl) ?_
      refine gf_X7_path C0 hw dX7_clashes_124 ?_
      refine lv_iload_n hx hb dX7_clashes_127 rfl (lv_at hl 3 rfl) ?_
      refine ld_M_path C0 hw h.1 dX7_clashes_128 ?_
      have h := h.2
      replace hl := lv_sub hl [1, 2, 0] rfl
      exact mb_X7_clashes_129 C0 x1 k0 (gM_path S (x2).toNatClampNeg) S _ _ ls h hw hl
    · have h := h.2 c116
      replace hl := lv_sub hl [1, 2, 0] rfl
      exact mb_X7_clashes_119 C0 _ (fun x1 x4 k0 S H locs ls h hw hl => mb_X7_clashes_129 C0 x1 x4 k0 S _ _ ls h hw hl) x1 k0 S _ _ ls h hw hl
set_option maxHeartbeats 4000000 in
set_option maxRecDepth 100000 in
theorem mb_X7_clashes_100 {p : Program} {l : Launch} {e : Env} {s : State} {m : MethodId} {args : Array Value} {below : List Frame} {meth : Method} {c : Code} {D : va_G} {ad : Nat → Nat} {cI cJ cZ : ClassId} {A : Nat → Prop} {post : Int32 → MS → Prop} (C0 : Cx p s m args meth c cX7_clashes 6 RX7 (some .boolean) D cI cJ cZ A) (K105 : Int32 → Int32 → Int32 → Int32 → MS → Prop) (hK105 : ∀ (x1 : Int32) (x2 : Int32) (x3 : Int32) (k0 : Int32) (S : MS) (H : Heap) (locs : List Loc) (ls : Array Slot), K105 x1 x2 x3 k0 S → Wd (WM ad cI cJ cZ) D A s.heap H locs S → lv_has ls 6 [(0, .ref (ad 0)), (1, .int x1), (2, .int x2), (3, .int x3)] → W p l e rm_X7_clashes s m args below meth c H locs 0 0 (QI (WM ad cI cJ cZ) D A s args below post) (F0 m 105 ls [.int k0])) :
 ∀ (x1 : Int32) (x2 : Int32) (x3 : Int32) (S : MS) (H : Heap) (locs : List Loc) (ls : Array Slot), wp_X7_clashes_100 K105 post x1 x2 x3 S → Wd (WM ad cI cJ cZ) D A s.heap H locs S → lv_has ls 6 [(0, .ref (ad 0)), (1, .int x1), (2, .int x2), (3, .int x3)] → W p l e rm_X7_clashes s m args below meth c H locs 0 0 (QI (WM ad cI cJ cZ) D A s args below post) (F0 m 100 ls []) := by
  have hx := C0.1
  have hb := C0.2.1
  intro x1 x2 x3 S H locs ls h hw hl
  unfold wp_X7_clashes_100 at h
  refine lv_iconst (v := 1) hx hb dX7_clashes_100 (by decide) ?_
  refine lv_goto (tgt := 105) hx hb dX7_clashes_101 (by decide) ?_
  replace hl := lv_sub hl [0, 1, 2, 3] rfl
  exact hK105 x1 x2 x3 (1 : Int32) S _ _ _ h hw hl
set_option maxHeartbeats 4000000 in
set_option maxRecDepth 100000 in
theorem mb_X7_clashes_104 {p : Program} {l : Launch} {e : Env} {s : State} {m : MethodId} {args : Array Value} {below : List Frame} {meth : Method} {c : Code} {D : va_G} {ad : Nat → Nat} {cI cJ cZ : ClassId} {A : Nat → Prop} {post : Int32 → MS → Prop} (C0 : Cx p s m args meth c cX7_clashes 6 RX7 (some .boolean) D cI cJ cZ A) (K105 : Int32 → Int32 → Int32 → Int32 → MS → Prop) (hK105 : ∀ (x1 : Int32) (x2 : Int32) (x3 : Int32) (k0 : Int32) (S : MS) (H : Heap) (locs : List Loc) (ls : Array Slot), K105 x1 x2 x3 k0 S → Wd (WM ad cI cJ cZ) D A s.heap H locs S → lv_has ls 6 [(0, .ref (ad 0)), (1, .int x1), (2, .int x2), (3, .int x3)] → W p l e rm_X7_clashes s m args below meth c H locs 0 0 (QI (WM ad cI cJ cZ) D A s args below post) (F0 m 105 ls [.int k0])) :
 ∀ (x1 : Int32) (x2 : Int32) (x3 : Int32) (S : MS) (H : Heap) (locs : List Loc) (ls : Array Slot), wp_X7_clashes_104 K105 post x1 x2 x3 S → Wd (WM ad cI cJ cZ) D A s.heap H locs S → lv_has ls 6 [(0, .ref (ad 0)), (1, .int x1), (2, .int x2), (3, .int x3)] → W p l e rm_X7_clashes s m args below meth c H locs 0 0 (QI (WM ad cI cJ cZ) D A s args below post) (F0 m 104 ls []) := by
  have hx := C0.1
  have hb := C0.2.1
  intro x1 x2 x3 S H locs ls h hw hl
  unfold wp_X7_clashes_104 at h
  refine lv_iconst (v := 0) hx hb dX7_clashes_104 (by decide) ?_
  replace hl := lv_sub hl [0, 1, 2, 3] rfl
  exact hK105 x1 x2 x3 (0 : Int32) S _ _ _ h hw hl
set_option maxHeartbeats 4000000 in
set_option maxRecDepth 100000 in
theorem mb_X7_clashes_79 {p : Program} {l : Launch} {e : Env} {s : State} {m : MethodId} {args : Array Value} {below : List Frame} {meth : Method} {c : Code} {D : va_G} {ad : Nat → Nat} {cI cJ cZ : ClassId} {A : Nat → Prop} {post : Int32 → MS → Prop} (C0 : Cx p s m args meth c cX7_clashes 6 RX7 (some .boolean) D cI cJ cZ A) (K100 : Int32 → Int32 → Int32 → MS → Prop) (hK100 : ∀ (x1 : Int32) (x2 : Int32) (x3 : Int32) (S : MS) (H : Heap) (locs : List Loc) (ls : Array Slot), K100 x1 x2 x3 S → Wd (WM ad cI cJ cZ) D A s.heap H locs S → lv_has ls 6 [(0, .ref (ad 0)), (1, .int x1), (2, .int x2), (3, .int x3)] → W p l e rm_X7_clashes s m args below meth c H locs 0 0 (QI (WM ad cI cJ cZ) D A s args below post) (F0 m 100 ls [])) (K105 : Int32 → Int32 → Int32 → Int32 → MS → Prop) (hK105 : ∀ (x1 : Int32) (x2 : Int32) (x3 : Int32) (k0 : Int32) (S : MS) (H : Heap) (locs : List Loc) (ls : Array Slot), K105 x1 x2 x3 k0 S → Wd (WM ad cI cJ cZ) D A s.heap H locs S → lv_has ls 6 [(0, .ref (ad 0)), (1, .int x1), (2, .int x2), (3, .int x3)] → W p l e rm_X7_clashes s m args below meth c H locs 0 0 (QI (WM ad cI cJ cZ) D A s args below post) (F0 m 105 ls [.int k0])) :
 ∀ (x1 : Int32) (x2 : Int32) (x3 : Int32) (S : MS) (H : Heap) (locs : List Loc) (ls : Array Slot), wp_X7_clashes_79 K100 K105 post x1 x2 x3 S → Wd (WM ad cI cJ cZ) D A s.heap H locs S → lv_has ls 6 [(0, .ref (ad 0)), (1, .int x1), (2, .int x2), (3, .int x3)] → W p l e rm_X7_clashes s m args below meth c H locs 0 0 (QI (WM ad cI cJ cZ) D A s args below post) (F0 m 79 ls []) := by
  have hx := C0.1
  have hb := C0.2.1
  intro x1 x2 x3 S H locs ls h hw hl
  unfold wp_X7_clashes_79 at h
  refine lv_iload_n hx hb dX7_clashes_79 rfl (lv_at hl 3 rfl) ?_
  refine lv_bipush (v := 8) hx hb dX7_clashes_80 (by decide) ?_
  refine lv_icmp_ne (tgt := 104) hx hb dX7_clashes_82 (by decide) (fun c82 => ?_) (fun c82 => ?_)
  · have h := h.1 c82
    replace hl := lv_sub hl [0, 1, 2, 3] rfl
    exact mb_X7_clashes_104 C0 _ hK105 x1 x2 x3 S _ _ ls h hw hl
  · have h := h.2 c82
    refine lv_aload_n hx hb dX7_clashes_85 rfl (lv_at hl 0 rfl) ?_
    refine gf_X7_sort C0 hw dX7_clashes_86 ?_
    refine lv_aload_n hx hb dX7_clashes_89 rfl (lv_at hl 0 rfl) ?_
    refine gf_X7_of C0 hw dX7_clashes_90 ?_
    refine lv_iload_n hx hb dX7_clashes_93 rfl (lv_at hl 2 rfl) ?_
    refine ld_M_of C0 hw h.1 dX7_clashes_94 ?_
    have h := h.2
    refine ld_M_sort C0 hw h.1 dX7_clashes_95 ?_
    have h := h.2
    refine lv_iconst (v := 1) hx hb dX7_clashes_96 (by decide) ?_
    refine lv_icmp_ne (tgt := 104) hx hb dX7_clashes_97 (by decide) (fun c97 => ?_) (fun c97 => ?_)
    · have h := h.1 c97
      replace hl := lv_sub hl [0, 1, 2, 3] rfl
      exact mb_X7_clashes_104 C0 _ hK105 x1 x2 x3 S _ _ ls h hw hl
    · have h := h.2 c97
      replace hl := lv_sub hl [0, 1, 2, 3] rfl
      exact hK100 x1 x2 x3 S _ _ _ h hw hl
set_option maxHeartbeats 4000000 in
set_option maxRecDepth 100000 in
theorem mb_X7_clashes_53 {p : Program} {l : Launch} {e : Env} {s : State} {m : MethodId} {args : Array Value} {below : List Frame} {meth : Method} {c : Code} {D : va_G} {ad : Nat → Nat} {cI cJ cZ : ClassId} {A : Nat → Prop} {post : Int32 → MS → Prop} (C0 : Cx p s m args meth c cX7_clashes 6 RX7 (some .boolean) D cI cJ cZ A) :
 ∀ (x1 : Int32) (x2 : Int32) (x3 : Int32) (S : MS) (H : Heap) (locs : List Loc) (ls : Array Slot), wp_X7_clashes_53 post x1 x2 x3 S → Wd (WM ad cI cJ cZ) D A s.heap H locs S → lv_has ls 6 [(0, .ref (ad 0)), (1, .int x1), (2, .int x2), (3, .int x3)] → W p l e rm_X7_clashes s m args below meth c H locs 0 0 (QI (WM ad cI cJ cZ) D A s args below post) (F0 m 53 ls []) := by
  have hx := C0.1
  have hb := C0.2.1
  intro x1 x2 x3 S H locs ls h hw hl
  unfold wp_X7_clashes_53 at h
  refine lv_iload_n hx hb dX7_clashes_53 rfl (lv_at hl 3 rfl) ?_
  refine lv_iconst (v := 1) hx hb dX7_clashes_54 (by decide) ?_
  refine lv_icmp_eq (tgt := 100) hx hb dX7_clashes_55 (by decide) (fun c55 => ?_) (fun c55 => ?_)
  · have h := h.1 c55
    replace hl := lv_sub hl [0, 1, 2, 3] rfl
    exact mb_X7_clashes_100 C0 _ (fun x1 x2 x3 k0 S H locs ls h hw hl => mb_X7_clashes_105 C0 x1 x2 x3 k0 S _ _ ls h hw hl) x1 x2 x3 S _ _ ls h hw hl
  · have h := h.2 c55
    refine lv_iload_n hx hb dX7_clashes_58 rfl (lv_at hl 3 rfl) ?_
    refine lv_bipush (v := 7) hx hb dX7_clashes_59 (by decide) ?_
    refine lv_icmp_ne (tgt := 79) hx hb dX7_clashes_61 (by decide) (fun c61 => ?_) (fun c61 => ?_)
    · have h := h.1 c61
      replace hl := lv_sub hl [0, 1, 2, 3] rfl
      exact mb_X7_clashes_79 C0 _ (fun x1 x2 x3 S H locs ls h hw hl => mb_X7_clashes_100 C0 _ (fun x1 x2 x3 k0 S H locs ls h hw hl => mb_X7_clashes_105 C0 x1 x2 x3 k0 S _ _ ls h hw hl) x1 x2 x3 S _ _ ls h hw hl) _ (fun x1 x2 x3 k0 S H locs ls h hw hl => mb_X7_clashes_105 C0 x1 x2 x3 k0 S _ _ ls h hw hl) x1 x2 x3 S _ _ ls h hw hl
    · have h := h.2 c61
      refine lv_aload_n hx hb dX7_clashes_64 rfl (lv_at hl 0 rfl) ?_
      refine gf_X7_sort C0 hw dX7_clashes_65 ?_
      refine lv_aload_n hx hb dX7_clashes_68 rfl (lv_at hl 0 rfl) ?_
      refine gf_X7_to C0 hw dX7_clashes_69 ?_
      refine lv_iload_n hx hb dX7_clashes_72 rfl (lv_at hl 2 rfl) ?_
      refine ld_M_to C0 hw h.1 dX7_clashes_73 ?_
      have h := h.2
      refine ld_M_sort C0 hw h.1 dX7_clashes_74 ?_
      have h := h.2
      refine lv_iconst (v := 1) hx hb dX7_clashes_75 (by decide) ?_
      refine lv_icmp_eq (tgt := 100) hx hb dX7_clashes_76 (by decide) (fun c76 => ?_) (fun c76 => ?_)
      · have h := h.1 c76
        replace hl := lv_sub hl [0, 1, 2, 3] rfl
        exact mb_X7_clashes_100 C0 _ (fun x1 x2 x3 k0 S H locs ls h hw hl => mb_X7_clashes_105 C0 x1 x2 x3 k0 S _ _ ls h hw hl) x1 x2 x3 S _ _ ls h hw hl
      · have h := h.2 c76
        replace hl := lv_sub hl [0, 1, 2, 3] rfl
        exact mb_X7_clashes_79 C0 _ (fun x1 x2 x3 S H locs ls h hw hl => mb_X7_clashes_100 C0 _ (fun x1 x2 x3 k0 S H locs ls h hw hl => mb_X7_clashes_105 C0 x1 x2 x3 k0 S _ _ ls h hw hl) x1 x2 x3 S _ _ ls h hw hl) _ (fun x1 x2 x3 k0 S H locs ls h hw hl => mb_X7_clashes_105 C0 x1 x2 x3 k0 S _ _ ls h hw hl) x1 x2 x3 S _ _ ls h hw hl
set_option maxHeartbeats 4000000 in
set_option maxRecDepth 100000 in
theorem m_X7_clashes (l : Launch) (D : va_G) (ad : Nat → Nat) (cI cJ cZ : ClassId) (S : MS) (x1 : Int32) (x2 : Int32) (post : Int32 → MS → Prop) (h : wp_X7_clashes S x1 x2 post) : CI (WM ad cI cJ cZ) D cI cJ cZ l yX7_clashes (.code yX7_clashes cX7_clashes 6 (some .boolean) :: gt) rm_X7_clashes S [.ref (ad 0), .int x1, .int x2] post := by
  refine enI (by decide) (Nat.le_of_ble_eq_true rfl) ?_
  intro p e s m below meth c A ls C0 hw hl
  have C0 : Cx p s m _ meth c cX7_clashes 6 RX7 (some .boolean) D cI cJ cZ A := C0
  have hl : lv_has ls 6 [(0, .ref (ad 0)), (1, .int x1), (2, .int x2)] := hl
  have hx := C0.1
  have hb := C0.2.1
  unfold wp_X7_clashes at h
  refine lv_aload_n hx hb dX7_clashes_0 rfl (lv_at hl 0 rfl) ?_
  refine gf_X7_acts C0 hw dX7_clashes_1 ?_
  refine lv_iload_n hx hb dX7_clashes_4 rfl (lv_at hl 2 rfl) ?_
  refine ld_M_acts C0 hw h.1 dX7_clashes_5 ?_
  have h := h.2
  refine lv_topi (fun x3_1 ex3_1 => ?_)
  have h := h x3_1 ex3_1
  refine lv_istore_n (lv' := [(3, .int x3_1), (0, .ref (ad 0)), (1, .int x1), (2, .int x2)]) hx hb dX7_clashes_6 rfl hl (by decide) rfl (fun ls hl => ?_)
  refine lv_iload_n hx hb dX7_clashes_7 rfl (lv_at hl 0 rfl) ?_
  refine lv_if_eq (tgt := 51) hx hb dX7_clashes_8 (by decide) (fun c8 => ?_) (fun c8 => ?_)
  · have h := h.1 c8
    refine lv_iconst (v := 0) hx hb dX7_clashes_51 (by decide) ?_
    exact rtZ C0 hw rfl h dX7_clashes_52
  · have h := h.2 c8
    refine lv_iload_n hx hb dX7_clashes_11 rfl (lv_at hl 0 rfl) ?_
    refine lv_iconst (v := 5) hx hb dX7_clashes_12 (by decide) ?_
    refine lv_icmp_eq (tgt := 51) hx hb dX7_clashes_13 (by decide) (fun c13 => ?_) (fun c13 => ?_)
    · have h := h.1 c13
      refine lv_iconst (v := 0) hx hb dX7_clashes_51 (by decide) ?_
      exact rtZ C0 hw rfl h dX7_clashes_52
    · have h := h.2 c13
      refine lv_aload_n hx hb dX7_clashes_16 rfl (lv_at hl 1 rfl) ?_
      refine gf_X7_of C0 hw dX7_clashes_17 ?_
      refine lv_iload_n hx hb dX7_clashes_20 rfl (lv_at hl 3 rfl) ?_
      refine ld_M_of C0 hw h.1 dX7_clashes_21 ?_
      have h := h.2
      refine lv_aload_n hx hb dX7_clashes_22 rfl (lv_at hl 1 rfl) ?_
      refine gf_X7_of C0 hw dX7_clashes_23 ?_
      refine lv_iload_n hx hb dX7_clashes_26 rfl (lv_at hl 2 rfl) ?_
      refine ld_M_of C0 hw h.1 dX7_clashes_27 ?_
      have h := h.2
      refine lv_icmp_ne (tgt := 51) hx hb dX7_clashes_28 (by decide) (fun c28 => ?_) (fun c28 => ?_)
      · have h := h.1 c28
        refine lv_iconst (v := 0) hx hb dX7_clashes_51 (by decide) ?_
        exact rtZ C0 hw rfl h dX7_clashes_52
      · have h := h.2 c28
        refine lv_iload_n hx hb dX7_clashes_31 rfl (lv_at hl 0 rfl) ?_
        refine lv_bipush (v := 6) hx hb dX7_clashes_32 (by decide) ?_
        refine lv_icmp_ne (tgt := 53) hx hb dX7_clashes_34 (by decide) (fun c34 => ?_) (fun c34 => ?_)
        · have h := h.1 c34
          replace hl := lv_sub hl [1, 2, 3, 0] rfl
          exact mb_X7_clashes_53 C0 x1 x2 x3_1 S _ _ ls h hw hl
        · have h := h.2 c34
          refine lv_aload_n hx hb dX7_clashes_37 rfl (lv_at hl 1 rfl) ?_
          refine gf_X7_sort C0 hw dX7_clashes_38 ?_
          refine lv_aload_n hx hb dX7_clashes_41 rfl (lv_at hl 1 rfl) ?_
          refine gf_X7_of C0 hw dX7_clashes_42 ?_
          refine lv_iload_n hx hb dX7_clashes_45 rfl (lv_at hl 3 rfl) ?_
          refine ld_M_of C0 hw h.1 dX7_clashes_46 ?_
          have h := h.2
          refine ld_M_sort C0 hw h.1 dX7_clashes_47 ?_
          have h := h.2
          refine lv_if_eq (tgt := 53) hx hb dX7_clashes_48 (by decide) (fun c48 => ?_) (fun c48 => ?_)
          · have h := h.1 c48
            replace hl := lv_sub hl [1, 2, 3, 0] rfl
            exact mb_X7_clashes_53 C0 x1 x2 x3_1 S _ _ ls h hw hl
          · have h := h.2 c48
            refine lv_iconst (v := 0) hx hb dX7_clashes_51 (by decide) ?_
            exact rtZ C0 hw rfl h dX7_clashes_52

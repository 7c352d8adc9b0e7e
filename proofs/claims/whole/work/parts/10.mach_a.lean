abbrev rm_X6_isSort : Room := { frames := 0, cells := 0, slots := 0, locals := 0 }
set_option maxHeartbeats 4000000 in
set_option maxRecDepth 100000 in
theorem mb_X6_isSort_30 {p : Program} {l : Launch} {e : Env} {s : State} {m : MethodId} {args : Array Value} {below : List Frame} {meth : Method} {c : Code} {D : va_G} {ad : Nat → Nat} {cI cJ cZ : ClassId} {A : Nat → Prop} {post : Int32 → CS → Prop} (C0 : Cx p s m args meth c cX6_isSort 2 RX6 (some .boolean) D cI cJ cZ A) :
 ∀ (x1 : Int32) (S : CS) (H : Heap) (locs : List Loc) (ls : Array Slot), wp_X6_isSort_30 post x1 S → Wd (WC ad cI cJ cZ) D A s.heap H locs S → lv_has ls 2 [(1, .int x1)] → W p l e rm_X6_isSort s m args below meth c H locs 0 0 (QI (WC ad cI cJ cZ) D A s args below post) (F0 m 30 ls []) := by
  have hx := C0.1
  have hb := C0.2.1
  intro x1 S H locs ls h hw hl
  unfold wp_X6_isSort_30 at h
  refine lv_iload_n hx hb dX6_isSort_30 rfl (lv_at hl 0 rfl) ?_
  refine lv_iconst (v := 1) hx hb dX6_isSort_31 (by decide) ?_
  refine lv_icmp_ne (tgt := 39) hx hb dX6_isSort_32 (by decide) (fun c32 => ?_) (fun c32 => ?_)
  · have h := h.1 c32
    refine lv_iconst (v := 0) hx hb dX6_isSort_39 (by decide) ?_
    exact rtZ C0 hw rfl h dX6_isSort_40
  · have h := h.2 c32
    refine lv_iconst (v := 1) hx hb dX6_isSort_35 (by decide) ?_
    refine lv_goto (tgt := 40) hx hb dX6_isSort_36 (by decide) ?_
    exact rtZ C0 hw rfl h dX6_isSort_40
set_option maxHeartbeats 4000000 in
set_option maxRecDepth 100000 in
theorem m_X6_isSort (l : Launch) (D : va_G) (ad : Nat → Nat) (cI cJ cZ : ClassId) (S : CS) (x0 : Int32) (x1 : Int32) (post : Int32 → CS → Prop) (h : wp_X6_isSort S x0 x1 post) : CI (WC ad cI cJ cZ) D cI cJ cZ l yX6_isSort (.code yX6_isSort cX6_isSort 2 (some .boolean) :: gt) rm_X6_isSort S [.int x0, .int x1] post := by
  refine enI (by decide) (Nat.le_of_ble_eq_true rfl) ?_
  intro p e s m below meth c A ls C0 hw hl
  have C0 : Cx p s m _ meth c cX6_isSort 2 RX6 (some .boolean) D cI cJ cZ A := C0
  have hl : lv_has ls 2 [(0, .int x0), (1, .int x1)] := hl
  have hx := C0.1
  have hb := C0.2.1
  unfold wp_X6_isSort at h
  refine lv_iload_n hx hb dX6_isSort_0 rfl (lv_at hl 0 rfl) ?_
  refine lv_if_ne (tgt := 20) hx hb dX6_isSort_1 (by decide) (fun c1 => ?_) (fun c1 => ?_)
  · have h := h.1 c1
    refine lv_iload_n hx hb dX6_isSort_20 rfl (lv_at hl 0 rfl) ?_
    refine lv_iconst (v := 1) hx hb dX6_isSort_21 (by decide) ?_
    refine lv_icmp_eq (tgt := 30) hx hb dX6_isSort_22 (by decide) (fun c22 => ?_) (fun c22 => ?_)
    · have h := h.1 c22
      replace hl := lv_sub hl [1] rfl
      exact mb_X6_isSort_30 C0 x1 S _ _ ls h hw hl
    · have h := h.2 c22
      refine lv_iload_n hx hb dX6_isSort_25 rfl (lv_at hl 0 rfl) ?_
      refine lv_iconst (v := 2) hx hb dX6_isSort_26 (by decide) ?_
      refine lv_icmp_ne (tgt := 39) hx hb dX6_isSort_27 (by decide) (fun c27 => ?_) (fun c27 => ?_)
      · have h := h.1 c27
        refine lv_iconst (v := 0) hx hb dX6_isSort_39 (by decide) ?_
        exact rtZ C0 hw rfl h dX6_isSort_40
      · have h := h.2 c27
        replace hl := lv_sub hl [1] rfl
        exact mb_X6_isSort_30 C0 x1 S _ _ ls h hw hl
  · have h := h.2 c1
    refine lv_iload_n hx hb dX6_isSort_4 rfl (lv_at hl 1 rfl) ?_
    refine lv_iconst (v := 1) hx hb dX6_isSort_5 (by decide) ?_
    refine lv_icmp_lt (tgt := 18) hx hb dX6_isSort_6 (by decide) (fun c6 => ?_) (fun c6 => ?_)
    · have h := h.1 c6
      refine lv_iconst (v := 0) hx hb dX6_isSort_18 (by decide) ?_
      exact rtZ C0 hw rfl h dX6_isSort_19
    · have h := h.2 c6
      refine lv_iload_n hx hb dX6_isSort_9 rfl (lv_at hl 1 rfl) ?_
      refine lv_iconst (v := 4) hx hb dX6_isSort_10 (by decide) ?_
      refine lv_icmp_gt (tgt := 18) hx hb dX6_isSort_11 (by decide) (fun c11 => ?_) (fun c11 => ?_)
      · have h := h.1 c11
        refine lv_iconst (v := 0) hx hb dX6_isSort_18 (by decide) ?_
        exact rtZ C0 hw rfl h dX6_isSort_19
      · have h := h.2 c11
        refine lv_iconst (v := 1) hx hb dX6_isSort_14 (by decide) ?_
        refine lv_goto (tgt := 19) hx hb dX6_isSort_15 (by decide) ?_
        exact rtZ C0 hw rfl h dX6_isSort_19
abbrev rm_X4_isFull : Room := { frames := 0, cells := 0, slots := 0, locals := 0 }
set_option maxHeartbeats 4000000 in
set_option maxRecDepth 100000 in
theorem m_X4_isFull (l : Launch) (D : va_G) (ad : Nat → Nat) (cI cJ cZ : ClassId) (S : CS)  (post : Int32 → CS → Prop) (h : wp_X4_isFull S  post) : CI (WC ad cI cJ cZ) D cI cJ cZ l yX4_isFull (.code yX4_isFull cX4_isFull 1 (some .boolean) :: gt) rm_X4_isFull S [.ref (ad 1)] post := by
  refine enI (by decide) (Nat.le_of_ble_eq_true rfl) ?_
  intro p e s m below meth c A ls C0 hw hl
  have C0 : Cx p s m _ meth c cX4_isFull 1 RX4 (some .boolean) D cI cJ cZ A := C0
  have hl : lv_has ls 1 [(0, .ref (ad 1))] := hl
  have hx := C0.1
  have hb := C0.2.1
  unfold wp_X4_isFull at h
  refine lv_aload_n hx hb dX4_isFull_0 rfl (lv_at hl 0 rfl) ?_
  refine gf_X4_made C0 hw dX4_isFull_1 ?_
  refine lv_bipush (v := 16) hx hb dX4_isFull_4 (by decide) ?_
  refine lv_icmp_lt (tgt := 13) hx hb dX4_isFull_6 (by decide) (fun c6 => ?_) (fun c6 => ?_)
  · have h := h.1 c6
    refine lv_iconst (v := 0) hx hb dX4_isFull_13 (by decide) ?_
    exact rtZ C0 hw rfl h dX4_isFull_14
  · have h := h.2 c6
    refine lv_iconst (v := 1) hx hb dX4_isFull_9 (by decide) ?_
    refine lv_goto (tgt := 14) hx hb dX4_isFull_10 (by decide) ?_
    exact rtZ C0 hw rfl h dX4_isFull_14
abbrev rm_X4_add : Room := { frames := 0, cells := 0, slots := 0, locals := 0 }
set_option maxHeartbeats 4000000 in
set_option maxRecDepth 100000 in
theorem m_X4_add (l : Launch) (D : va_G) (ad : Nat → Nat) (cI cJ cZ : ClassId) (S : CS) (x1 : Int32) (x2 : Int32) (post : Int32 → CS → Prop) (h : wp_X4_add S x1 x2 post) : CI (WC ad cI cJ cZ) D cI cJ cZ l yX4_add (.code yX4_add cX4_add 3 (some .int) :: gt) rm_X4_add S [.ref (ad 1), .int x1, .int x2] post := by
  refine enI (by decide) (Nat.le_of_ble_eq_true rfl) ?_
  intro p e s m below meth c A ls C0 hw hl
  have C0 : Cx p s m _ meth c cX4_add 3 RX4 (some .int) D cI cJ cZ A := C0
  have hl : lv_has ls 3 [(0, .ref (ad 1)), (1, .int x1), (2, .int x2)] := hl
  have hx := C0.1
  have hb := C0.2.1
  unfold wp_X4_add at h
  refine lv_aload_n hx hb dX4_add_0 rfl (lv_at hl 0 rfl) ?_
  refine gf_X4_sorts C0 hw dX4_add_1 ?_
  refine lv_aload_n hx hb dX4_add_4 rfl (lv_at hl 0 rfl) ?_
  refine gf_X4_made C0 hw dX4_add_5 ?_
  refine lv_iload_n hx hb dX4_add_8 rfl (lv_at hl 1 rfl) ?_
  refine st_C_sorts C0 hw h.1 dX4_add_9 (fun H locs hw => ?_)
  have h := h.2
  obtain ⟨S_1, eS_1⟩ : ∃ z, z = sC_sorts S (upd (gC_sorts S) (gC_vmade S).toNatClampNeg x1) := ⟨_, rfl⟩
  rw [← eS_1] at hw
  have h := h S_1 eS_1
  refine lv_aload_n hx hb dX4_add_10 rfl (lv_at hl 0 rfl) ?_
  refine gf_X4_leafCounts C0 hw dX4_add_11 ?_
  refine lv_aload_n hx hb dX4_add_14 rfl (lv_at hl 0 rfl) ?_
  refine gf_X4_made C0 hw dX4_add_15 ?_
  refine lv_iload_n hx hb dX4_add_18 rfl (lv_at hl 2 rfl) ?_
  refine st_C_lcs C0 hw h.1 dX4_add_19 (fun H locs hw => ?_)
  have h := h.2
  obtain ⟨S_2, eS_2⟩ : ∃ z, z = sC_lcs S_1 (upd (gC_lcs S_1) (gC_vmade S_1).toNatClampNeg x2) := ⟨_, rfl⟩
  rw [← eS_2] at hw
  have h := h S_2 eS_2
  refine lv_aload_n hx hb dX4_add_20 rfl (lv_at hl 0 rfl) ?_
  refine lv_dup hx hb dX4_add_21 rfl ?_
  refine gf_X4_made C0 hw dX4_add_22 ?_
  refine lv_iconst (v := 1) hx hb dX4_add_25 (by decide) ?_
  refine lv_iadd hx hb dX4_add_26 ?_
  refine pf_X4_made C0 hw dX4_add_27 (fun H locs hw => ?_)
  obtain ⟨S_3, eS_3⟩ : ∃ z, z = sC_vmade S_2 ((gC_vmade S_2) + (1 : Int32)) := ⟨_, rfl⟩
  rw [← eS_3] at hw
  have h := h S_3 eS_3
  refine lv_aload_n hx hb dX4_add_30 rfl (lv_at hl 0 rfl) ?_
  refine gf_X4_made C0 hw dX4_add_31 ?_
  refine lv_iconst (v := 1) hx hb dX4_add_34 (by decide) ?_
  refine lv_isub hx hb dX4_add_35 ?_
  exact rtI C0 hw h dX4_add_36
abbrev rm_X4_has : Room := { frames := 0, cells := 0, slots := 0, locals := 0 }
set_option maxHeartbeats 4000000 in
set_option maxRecDepth 100000 in
theorem m_X4_has (l : Launch) (D : va_G) (ad : Nat → Nat) (cI cJ cZ : ClassId) (S : CS) (x1 : Int32) (post : Int32 → CS → Prop) (h : wp_X4_has S x1 post) : CI (WC ad cI cJ cZ) D cI cJ cZ l yX4_has (.code yX4_has cX4_has 2 (some .boolean) :: gt) rm_X4_has S [.ref (ad 1), .int x1] post := by
  refine enI (by decide) (Nat.le_of_ble_eq_true rfl) ?_
  intro p e s m below meth c A ls C0 hw hl
  have C0 : Cx p s m _ meth c cX4_has 2 RX4 (some .boolean) D cI cJ cZ A := C0
  have hl : lv_has ls 2 [(0, .ref (ad 1)), (1, .int x1)] := hl
  have hx := C0.1
  have hb := C0.2.1
  unfold wp_X4_has at h
  refine lv_iload_n hx hb dX4_has_0 rfl (lv_at hl 1 rfl) ?_
  refine lv_if_lt (tgt := 16) hx hb dX4_has_1 (by decide) (fun c1 => ?_) (fun c1 => ?_)
  · have h := h.1 c1
    refine lv_iconst (v := 0) hx hb dX4_has_16 (by decide) ?_
    exact rtZ C0 hw rfl h dX4_has_17
  · have h := h.2 c1
    refine lv_iload_n hx hb dX4_has_4 rfl (lv_at hl 1 rfl) ?_
    refine lv_aload_n hx hb dX4_has_5 rfl (lv_at hl 0 rfl) ?_
    refine gf_X4_made C0 hw dX4_has_6 ?_
    refine lv_icmp_ge (tgt := 16) hx hb dX4_has_9 (by decide) (fun c9 => ?_) (fun c9 => ?_)
    · have h := h.1 c9
      refine lv_iconst (v := 0) hx hb dX4_has_16 (by decide) ?_
      exact rtZ C0 hw rfl h dX4_has_17
    · have h := h.2 c9
      refine lv_iconst (v := 1) hx hb dX4_has_12 (by decide) ?_
      refine lv_goto (tgt := 17) hx hb dX4_has_13 (by decide) ?_
      exact rtZ C0 hw rfl h dX4_has_17
abbrev rm_X4_hasParts : Room := { frames := 1, cells := 0, slots := 0, locals := 21 }
set_option maxHeartbeats 4000000 in
set_option maxRecDepth 100000 in
theorem m_X4_hasParts (l : Launch) (D : va_G) (ad : Nat → Nat) (cI cJ cZ : ClassId) (S : CS) (x1 : Int32) (post : Int32 → CS → Prop) (h : wp_X4_hasParts S x1 post) : CI (WC ad cI cJ cZ) D cI cJ cZ l yX4_hasParts (.code yX4_hasParts cX4_hasParts 2 (some .boolean) :: gt) rm_X4_hasParts S [.ref (ad 1), .int x1] post := by
  refine enI (by decide) (Nat.le_of_ble_eq_true rfl) ?_
  intro p e s m below meth c A ls C0 hw hl
  have C0 : Cx p s m _ meth c cX4_hasParts 2 RX4 (some .boolean) D cI cJ cZ A := C0
  have hl : lv_has ls 2 [(0, .ref (ad 1)), (1, .int x1)] := hl
  have hx := C0.1
  have hb := C0.2.1
  unfold wp_X4_hasParts at h
  refine lv_aload_n hx hb dX4_hasParts_0 rfl (lv_at hl 0 rfl) ?_
  refine lv_iload_n hx hb dX4_hasParts_1 rfl (lv_at hl 1 rfl) ?_
  refine clVI (As := [.int x1]) (rest := []) (ci := 3) (k := 1) C0 (m_X4_has l D ad cI cJ cZ S x1 _ h) cal_X4_has kw_13 kw_12 kw_14 rfl rfl rfl rfl hl.1 rfl (Nat.le_of_ble_eq_true rfl) ⟨Nat.le_of_ble_eq_true rfl, Nat.le_of_ble_eq_true rfl⟩ rfl rfl dX4_hasParts_2 hw (fun r2 S2 H locs h hw => ?_)
  replace h := h
  refine lv_if_eq (tgt := 22) hx hb dX4_hasParts_5 (by decide) (fun c5 => ?_) (fun c5 => ?_)
  · have h := h.1 c5
    refine lv_iconst (v := 0) hx hb dX4_hasParts_22 (by decide) ?_
    exact rtZ C0 hw rfl h dX4_hasParts_23
  · have h := h.2 c5
    refine lv_aload_n hx hb dX4_hasParts_8 rfl (lv_at hl 0 rfl) ?_
    refine gf_X4_leafCounts C0 hw dX4_hasParts_9 ?_
    refine lv_iload_n hx hb dX4_hasParts_12 rfl (lv_at hl 1 rfl) ?_
    refine ld_C_lcs C0 hw h.1 dX4_hasParts_13 ?_
    have h := h.2
    refine lv_iconst (v := 1) hx hb dX4_hasParts_14 (by decide) ?_
    refine lv_icmp_le (tgt := 22) hx hb dX4_hasParts_15 (by decide) (fun c15 => ?_) (fun c15 => ?_)
    · have h := h.1 c15
      refine lv_iconst (v := 0) hx hb dX4_hasParts_22 (by decide) ?_
      exact rtZ C0 hw rfl h dX4_hasParts_23
    · have h := h.2 c15
      refine lv_iconst (v := 1) hx hb dX4_hasParts_18 (by decide) ?_
      refine lv_goto (tgt := 23) hx hb dX4_hasParts_19 (by decide) ?_
      exact rtZ C0 hw rfl h dX4_hasParts_23
abbrev rm_X3_firstDigit : Room := { frames := 0, cells := 0, slots := 0, locals := 0 }
set_option maxHeartbeats 4000000 in
set_option maxRecDepth 100000 in
theorem m_X3_firstDigit (l : Launch) (D : va_G) (ad : Nat → Nat) (cI cJ cZ : ClassId) (S : CS) (x0 : Int32) (post : Int32 → CS → Prop) (h : wp_X3_firstDigit S x0 post) : CI (WC ad cI cJ cZ) D cI cJ cZ l yX3_firstDigit (.code yX3_firstDigit cX3_firstDigit 1 (some .int) :: gt) rm_X3_firstDigit S [.int x0] post := by
  refine enI (by decide) (Nat.le_of_ble_eq_true rfl) ?_
  intro p e s m below meth c A ls C0 hw hl
  have C0 : Cx p s m _ meth c cX3_firstDigit 1 RX3 (some .int) D cI cJ cZ A := C0
  have hl : lv_has ls 1 [(0, .int x0)] := hl
  have hx := C0.1
  have hb := C0.2.1
  unfold wp_X3_firstDigit at h
  refine lv_iload_n hx hb dX3_firstDigit_0 rfl (lv_at hl 0 rfl) ?_
  refine lv_bipush (v := 7) hx hb dX3_firstDigit_1 (by decide) ?_
  refine lv_iand hx hb dX3_firstDigit_3 ?_
  exact rtI C0 hw h dX3_firstDigit_4
abbrev rm_X6_leafBit : Room := { frames := 0, cells := 0, slots := 0, locals := 0 }
set_option maxHeartbeats 4000000 in
set_option maxRecDepth 100000 in
theorem m_X6_leafBit (l : Launch) (D : va_G) (ad : Nat → Nat) (cI cJ cZ : ClassId) (S : CS) (x0 : Int32) (x1 : Int32) (post : Int64 → CS → Prop) (h : wp_X6_leafBit S x0 x1 post) : CL (WC ad cI cJ cZ) D cI cJ cZ l yX6_leafBit (.code yX6_leafBit cX6_leafBit 2 (some .long) :: gt) rm_X6_leafBit S [.int x0, .int x1] post := by
  refine enL (by decide) (Nat.le_of_ble_eq_true rfl) ?_
  intro p e s m below meth c A ls C0 hw hl
  have C0 : Cx p s m _ meth c cX6_leafBit 2 RX6 (some .long) D cI cJ cZ A := C0
  have hl : lv_has ls 2 [(0, .int x0), (1, .int x1)] := hl
  have hx := C0.1
  have hb := C0.2.1
  unfold wp_X6_leafBit at h
  refine lv_lconst (v := 1) hx hb dX6_leafBit_0 (by decide) ?_
  refine lv_iload_n hx hb dX6_leafBit_1 rfl (lv_at hl 0 rfl) ?_
  refine lv_iconst (v := 4) hx hb dX6_leafBit_2 (by decide) ?_
  refine lv_imul hx hb dX6_leafBit_3 ?_
  refine lv_iload_n hx hb dX6_leafBit_4 rfl (lv_at hl 1 rfl) ?_
  refine lv_iadd hx hb dX6_leafBit_5 ?_
  refine lv_lshl hx hb dX6_leafBit_6 rfl ?_
  exact rtL C0 hw h dX6_leafBit_7
abbrev rm_X4_leavesOf : Room := { frames := 2, cells := 0, slots := 0, locals := 42 }
set_option maxHeartbeats 4000000 in
set_option maxRecDepth 100000 in
theorem mb_X4_leavesOf_33 {p : Program} {l : Launch} {e : Env} {s : State} {m : MethodId} {args : Array Value} {below : List Frame} {meth : Method} {c : Code} {D : va_G} {ad : Nat → Nat} {cI cJ cZ : ClassId} {A : Nat → Prop} {post : Int64 → CS → Prop} (C0 : Cx p s m args meth c cX4_leavesOf 5 RX4 (some .long) D cI cJ cZ A) :
 ∀ (x1 : Int32) (S : CS) (H : Heap) (locs : List Loc) (ls : Array Slot), wp_X4_leavesOf_33 post x1 S → Wd (WC ad cI cJ cZ) D A s.heap H locs S → lv_has ls 5 [(0, .ref (ad 1)), (1, .int x1)] → W p l e rm_X4_leavesOf s m args below meth c H locs 0 0 (QL (WC ad cI cJ cZ) D A s args below post) (F0 m 33 ls []) := by
  have hx := C0.1
  have hb := C0.2.1
  intro x1 S H locs ls h hw hl
  unfold wp_X4_leavesOf_33 at h
  refine lv_lconst (v := 1) hx hb dX4_leavesOf_33 (by decide) ?_
  refine lv_aload_n hx hb dX4_leavesOf_34 rfl (lv_at hl 0 rfl) ?_
  refine gf_X4_leafCounts C0 hw dX4_leavesOf_35 ?_
  refine lv_iload_n hx hb dX4_leavesOf_38 rfl (lv_at hl 1 rfl) ?_
  refine ld_C_lcs C0 hw h.1 dX4_leavesOf_39 ?_
  have h := h.2
  refine lv_lshl hx hb dX4_leavesOf_40 rfl ?_
  refine lv_lconst (v := 1) hx hb dX4_leavesOf_41 (by decide) ?_
  refine lv_lsub hx hb dX4_leavesOf_42 ?_
  refine lv_topl (fun x3_1 ex3_1 => ?_)
  have h := h x3_1 ex3_1
  refine lv_lstore_n (lv' := [(3, .long x3_1), (0, .ref (ad 1)), (1, .int x1)]) hx hb dX4_leavesOf_43 rfl hl (by decide) rfl (fun ls hl => ?_)
  refine lv_lload_n hx hb dX4_leavesOf_44 rfl (lv_at hl 0 rfl) ?_
  refine lv_iload_n hx hb dX4_leavesOf_45 rfl (lv_at hl 2 rfl) ?_
  refine lv_iconst (v := 4) hx hb dX4_leavesOf_46 (by decide) ?_
  refine lv_imul hx hb dX4_leavesOf_47 ?_
  refine lv_lshl hx hb dX4_leavesOf_48 rfl ?_
  exact rtL C0 hw h dX4_leavesOf_49
set_option maxHeartbeats 4000000 in
set_option maxRecDepth 100000 in
theorem m_X4_leavesOf (l : Launch) (D : va_G) (ad : Nat → Nat) (cI cJ cZ : ClassId) (S : CS) (x1 : Int32) (x2 : Int32) (post : Int64 → CS → Prop) (h : wp_X4_leavesOf S x1 x2 post) : CL (WC ad cI cJ cZ) D cI cJ cZ l yX4_leavesOf (.code yX4_leavesOf cX4_leavesOf 5 (some .long) :: gt) rm_X4_leavesOf S [.ref (ad 1), .int x1, .int x2] post := by
  refine enL (by decide) (Nat.le_of_ble_eq_true rfl) ?_
  intro p e s m below meth c A ls C0 hw hl
  have C0 : Cx p s m _ meth c cX4_leavesOf 5 RX4 (some .long) D cI cJ cZ A := C0
  have hl : lv_has ls 5 [(0, .ref (ad 1)), (1, .int x1), (2, .int x2)] := hl
  have hx := C0.1
  have hb := C0.2.1
  unfold wp_X4_leavesOf at h
  refine lv_aload_n hx hb dX4_leavesOf_0 rfl (lv_at hl 0 rfl) ?_
  refine lv_iload_n hx hb dX4_leavesOf_1 rfl (lv_at hl 1 rfl) ?_
  refine clVI (As := [.int x1]) (rest := []) (ci := 3) (k := 1) C0 (m_X4_has l D ad cI cJ cZ S x1 _ h) cal_X4_has kw_13 kw_12 kw_14 rfl rfl rfl rfl hl.1 rfl (Nat.le_of_ble_eq_true rfl) ⟨Nat.le_of_ble_eq_true rfl, Nat.le_of_ble_eq_true rfl⟩ rfl rfl dX4_leavesOf_2 hw (fun r2 S2 H locs h hw => ?_)
  replace h := h
  refine lv_if_ne (tgt := 10) hx hb dX4_leavesOf_5 (by decide) (fun c5 => ?_) (fun c5 => ?_)
  · have h := h.1 c5
    refine lv_aload_n hx hb dX4_leavesOf_10 rfl (lv_at hl 0 rfl) ?_
    refine lv_iload_n hx hb dX4_leavesOf_11 rfl (lv_at hl 1 rfl) ?_
    refine clVI (As := [.int x1]) (rest := []) (ci := 3) (k := 1) C0 (m_X4_hasParts l D ad cI cJ cZ S2 x1 _ h) cal_X4_hasParts kw_17 kw_16 kw_15 rfl rfl rfl rfl hl.1 rfl (Nat.le_of_ble_eq_true rfl) ⟨Nat.le_of_ble_eq_true rfl, Nat.le_of_ble_eq_true rfl⟩ rfl rfl dX4_leavesOf_12 hw (fun r12 S12 H locs h hw => ?_)
    replace h := h
    refine lv_if_eq (tgt := 33) hx hb dX4_leavesOf_15 (by decide) (fun c15 => ?_) (fun c15 => ?_)
    · have h := h.1 c15
      replace hl := lv_sub hl [0, 1] rfl
      exact mb_X4_leavesOf_33 C0 x1 S12 _ _ ls h hw hl
    · have h := h.2 c15
      refine lv_iload_n hx hb dX4_leavesOf_18 rfl (lv_at hl 2 rfl) ?_
      refine lv_if_eq (tgt := 33) hx hb dX4_leavesOf_19 (by decide) (fun c19 => ?_) (fun c19 => ?_)
      · have h := h.1 c19
        replace hl := lv_sub hl [0, 1] rfl
        exact mb_X4_leavesOf_33 C0 x1 S12 _ _ ls h hw hl
      · have h := h.2 c19
        refine lv_iload_n hx hb dX4_leavesOf_22 rfl (lv_at hl 1 rfl) ?_
        refine lv_iload_n hx hb dX4_leavesOf_23 rfl (lv_at hl 2 rfl) ?_
        refine clSI (As := [.int x2]) (rest := [.int x1]) C0 (m_X3_firstDigit l D ad cI cJ cZ S12 x2 _ h) cal_X3_firstDigit kw_19 kw_18 rfl hl.1 rfl (Nat.le_of_ble_eq_true rfl) ⟨Nat.le_of_ble_eq_true rfl, Nat.le_of_ble_eq_true rfl⟩ rfl rfl dX4_leavesOf_24 hw (fun r24 S24 H locs h hw => ?_)
        replace h := h
        refine lv_iconst (v := 1) hx hb dX4_leavesOf_27 (by decide) ?_
        refine lv_isub hx hb dX4_leavesOf_28 ?_
        refine clNL (As := [.int x1, .int (r24 - (1 : Int32))]) (rest := []) C0 (m_X6_leafBit l D ad cI cJ cZ S24 x1 (r24 - (1 : Int32)) _ h) cal_X6_leafBit kw_20 C0.2.2.2.2.2.2.2.1.2.1 rfl hl.1 rfl (Nat.le_of_ble_eq_true rfl) ⟨Nat.le_of_ble_eq_true rfl, Nat.le_of_ble_eq_true rfl⟩ rfl rfl dX4_leavesOf_29 hw (fun r29 S29 H locs h hw => ?_)
        replace h := h
        exact rtL C0 hw h dX4_leavesOf_32
  · have h := h.2 c5
    refine lv_lconst (v := 0) hx hb dX4_leavesOf_8 (by decide) ?_
    exact rtL C0 hw h dX4_leavesOf_9
abbrev rm_X4_begin : Room := { frames := 3, cells := 0, slots := 0, locals := 66 }
set_option maxHeartbeats 4000000 in
set_option maxRecDepth 100000 in
theorem m_X4_begin (l : Launch) (D : va_G) (ad : Nat → Nat) (cI cJ cZ : ClassId) (S : CS) (x1 : Int32) (x2 : Int32) (post : CS → Prop) (h : wp_X4_begin S x1 x2 post) : CV (WC ad cI cJ cZ) D cI cJ cZ l yX4_begin (.code yX4_begin cX4_begin 5 none :: gt) rm_X4_begin S [.ref (ad 1), .int x1, .int x2] post := by
  refine enV (by decide) (Nat.le_of_ble_eq_true rfl) ?_
  intro p e s m below meth c A ls C0 hw hl
  have C0 : Cx p s m _ meth c cX4_begin 5 RX4 none D cI cJ cZ A := C0
  have hl : lv_has ls 5 [(0, .ref (ad 1)), (1, .int x1), (2, .int x2)] := hl
  have hx := C0.1
  have hb := C0.2.1
  unfold wp_X4_begin at h
  refine lv_aload_n hx hb dX4_begin_0 rfl (lv_at hl 0 rfl) ?_
  refine lv_iload_n hx hb dX4_begin_1 rfl (lv_at hl 1 rfl) ?_
  refine lv_iconst (v := 0) hx hb dX4_begin_2 (by decide) ?_
  refine clVL (As := [.int x1, .int (0 : Int32)]) (rest := []) (ci := 3) (k := 1) C0 (m_X4_leavesOf l D ad cI cJ cZ S x1 (0 : Int32) _ h) cal_X4_leavesOf kw_23 kw_22 kw_21 rfl rfl rfl rfl hl.1 rfl (Nat.le_of_ble_eq_true rfl) ⟨Nat.le_of_ble_eq_true rfl, Nat.le_of_ble_eq_true rfl⟩ rfl rfl dX4_begin_3 hw (fun r3 S3 H locs h hw => ?_)
  replace h := h
  refine lv_lstore_n (lv' := [(3, .long r3), (0, .ref (ad 1)), (1, .int x1), (2, .int x2)]) hx hb dX4_begin_6 rfl hl (by decide) rfl (fun ls hl => ?_)
  refine lv_aload_n hx hb dX4_begin_7 rfl (lv_at hl 1 rfl) ?_
  refine lv_iload_n hx hb dX4_begin_8 rfl (lv_at hl 3 rfl) ?_
  refine lv_if_eq (tgt := 21) hx hb dX4_begin_9 (by decide) (fun c9 => ?_) (fun c9 => ?_)
  · have h := h.1 c9
    refine lv_aload_n hx hb dX4_begin_21 rfl (lv_at hl 1 rfl) ?_
    refine gf_X4_begun C0 hw dX4_begin_22 ?_
    refine lv_lload_n hx hb dX4_begin_25 rfl (lv_at hl 0 rfl) ?_
    refine lv_ldc2 (v := -1) hx hb C0.2.2.2.2.1 (C0.2.2.2.2.2.1 _ kw_24) dX4_begin_26 ?_
    refine lv_lxor hx hb dX4_begin_29 ?_
    refine lv_land hx hb dX4_begin_30 ?_
    refine pf_X4_begun C0 hw dX4_begin_31 (fun H locs hw => ?_)
    obtain ⟨S_1, eS_1⟩ : ∃ z, z = sC_begun S3 ((gC_begun S3) &&& (r3 ^^^ (-1 : Int64))) := ⟨_, rfl⟩
    rw [← eS_1] at hw
    have h := h S_1 eS_1
    exact rtV C0 hw h dX4_begin_34
  · have h := h.2 c9
    refine lv_aload_n hx hb dX4_begin_12 rfl (lv_at hl 1 rfl) ?_
    refine gf_X4_begun C0 hw dX4_begin_13 ?_
    refine lv_lload_n hx hb dX4_begin_16 rfl (lv_at hl 0 rfl) ?_
    refine lv_lor hx hb dX4_begin_17 ?_
    refine lv_goto (tgt := 31) hx hb dX4_begin_18 (by decide) ?_
    refine pf_X4_begun C0 hw dX4_begin_31 (fun H locs hw => ?_)
    obtain ⟨S_2, eS_2⟩ : ∃ z, z = sC_begun S3 ((gC_begun S3) ||| r3) := ⟨_, rfl⟩
    rw [← eS_2] at hw
    have h := h S_2 eS_2
    exact rtV C0 hw h dX4_begin_34
abbrev rm_X6_answer : Room := { frames := 0, cells := 0, slots := 0, locals := 0 }
set_option maxHeartbeats 4000000 in
set_option maxRecDepth 100000 in
theorem m_X6_answer (l : Launch) (D : va_G) (ad : Nat → Nat) (cI cJ cZ : ClassId) (S : CS) (x0 : Int32) (post : Int32 → CS → Prop) (h : wp_X6_answer S x0 post) : CI (WC ad cI cJ cZ) D cI cJ cZ l yX6_answer (.code yX6_answer cX6_answer 1 (some .int) :: gt) rm_X6_answer S [.int x0] post := by
  refine enI (by decide) (Nat.le_of_ble_eq_true rfl) ?_
  intro p e s m below meth c A ls C0 hw hl
  have C0 : Cx p s m _ meth c cX6_answer 1 RX6 (some .int) D cI cJ cZ A := C0
  have hl : lv_has ls 1 [(0, .int x0)] := hl
  have hx := C0.1
  have hb := C0.2.1
  unfold wp_X6_answer at h
  refine lv_iload_n hx hb dX6_answer_0 rfl (lv_at hl 0 rfl) ?_
  refine lv_if_eq (tgt := 8) hx hb dX6_answer_1 (by decide) (fun c1 => ?_) (fun c1 => ?_)
  · have h := h.1 c1
    refine lv_iconst (v := 0) hx hb dX6_answer_8 (by decide) ?_
    exact rtI C0 hw h dX6_answer_9
  · have h := h.2 c1
    refine lv_iconst (v := 1) hx hb dX6_answer_4 (by decide) ?_
    refine lv_goto (tgt := 9) hx hb dX6_answer_5 (by decide) ?_
    exact rtI C0 hw h dX6_answer_9
abbrev rm_X3_behindFirst : Room := { frames := 0, cells := 0, slots := 0, locals := 0 }
set_option maxHeartbeats 4000000 in
set_option maxRecDepth 100000 in
theorem m_X3_behindFirst (l : Launch) (D : va_G) (ad : Nat → Nat) (cI cJ cZ : ClassId) (S : CS) (x0 : Int32) (post : Int32 → CS → Prop) (h : wp_X3_behindFirst S x0 post) : CI (WC ad cI cJ cZ) D cI cJ cZ l yX3_behindFirst (.code yX3_behindFirst cX3_behindFirst 1 (some .int) :: gt) rm_X3_behindFirst S [.int x0] post := by
  refine enI (by decide) (Nat.le_of_ble_eq_true rfl) ?_
  intro p e s m below meth c A ls C0 hw hl
  have C0 : Cx p s m _ meth c cX3_behindFirst 1 RX3 (some .int) D cI cJ cZ A := C0
  have hl : lv_has ls 1 [(0, .int x0)] := hl
  have hx := C0.1
  have hb := C0.2.1
  unfold wp_X3_behindFirst at h
  refine lv_iload_n hx hb dX3_behindFirst_0 rfl (lv_at hl 0 rfl) ?_
  refine lv_iconst (v := 3) hx hb dX3_behindFirst_1 (by decide) ?_
  refine lv_ishr hx hb dX3_behindFirst_2 ?_
  exact rtI C0 hw h dX3_behindFirst_3
abbrev rm_X4_isWithin : Room := { frames := 2, cells := 0, slots := 0, locals := 42 }
set_option maxHeartbeats 4000000 in
set_option maxRecDepth 100000 in
theorem m_X4_isWithin (l : Launch) (D : va_G) (ad : Nat → Nat) (cI cJ cZ : ClassId) (S : CS) (x1 : Int32) (x2 : Int32) (post : Int32 → CS → Prop) (h : wp_X4_isWithin S x1 x2 post) : CI (WC ad cI cJ cZ) D cI cJ cZ l yX4_isWithin (.code yX4_isWithin cX4_isWithin 3 (some .boolean) :: gt) rm_X4_isWithin S [.ref (ad 1), .int x1, .int x2] post := by
  refine enI (by decide) (Nat.le_of_ble_eq_true rfl) ?_
  intro p e s m below meth c A ls C0 hw hl
  have C0 : Cx p s m _ meth c cX4_isWithin 3 RX4 (some .boolean) D cI cJ cZ A := C0
  have hl : lv_has ls 3 [(0, .ref (ad 1)), (1, .int x1), (2, .int x2)] := hl
  have hx := C0.1
  have hb := C0.2.1
  unfold wp_X4_isWithin at h
  refine lv_aload_n hx hb dX4_isWithin_0 rfl (lv_at hl 0 rfl) ?_
  refine lv_iload_n hx hb dX4_isWithin_1 rfl (lv_at hl 1 rfl) ?_
  refine clVI (As := [.int x1]) (rest := []) (ci := 3) (k := 1) C0 (m_X4_hasParts l D ad cI cJ cZ S x1 _ h) cal_X4_hasParts kw_17 kw_16 kw_15 rfl rfl rfl rfl hl.1 rfl (Nat.le_of_ble_eq_true rfl) ⟨Nat.le_of_ble_eq_true rfl, Nat.le_of_ble_eq_true rfl⟩ rfl rfl dX4_isWithin_2 hw (fun r2 S2 H locs h hw => ?_)
  replace h := h
  refine lv_if_eq (tgt := 23) hx hb dX4_isWithin_5 (by decide) (fun c5 => ?_) (fun c5 => ?_)
  · have h := h.1 c5
    refine lv_iload_n hx hb dX4_isWithin_23 rfl (lv_at hl 2 rfl) ?_
    refine lv_if_eq (tgt := 31) hx hb dX4_isWithin_24 (by decide) (fun c24 => ?_) (fun c24 => ?_)
    · have h := h.1 c24
      refine lv_iconst (v := 0) hx hb dX4_isWithin_31 (by decide) ?_
      exact rtZ C0 hw rfl h dX4_isWithin_32
    · have h := h.2 c24
      refine lv_iconst (v := 1) hx hb dX4_isWithin_27 (by decide) ?_
      refine lv_goto (tgt := 32) hx hb dX4_isWithin_28 (by decide) ?_
      exact rtZ C0 hw rfl h dX4_isWithin_32
  · have h := h.2 c5
    refine lv_iload_n hx hb dX4_isWithin_8 rfl (lv_at hl 2 rfl) ?_
    refine clSI (As := [.int x2]) (rest := []) C0 (m_X3_behindFirst l D ad cI cJ cZ S2 x2 _ h) cal_X3_behindFirst kw_31 kw_30 rfl hl.1 rfl (Nat.le_of_ble_eq_true rfl) ⟨Nat.le_of_ble_eq_true rfl, Nat.le_of_ble_eq_true rfl⟩ rfl rfl dX4_isWithin_9 hw (fun r9 S9 H locs h hw => ?_)
    replace h := h
    refine lv_if_eq (tgt := 19) hx hb dX4_isWithin_12 (by decide) (fun c12 => ?_) (fun c12 => ?_)
    · have h := h.1 c12
      refine lv_iconst (v := 0) hx hb dX4_isWithin_19 (by decide) ?_
      refine lv_goto (tgt := 32) hx hb dX4_isWithin_20 (by decide) ?_
      exact rtZ C0 hw rfl h dX4_isWithin_32
    · have h := h.2 c12
      refine lv_iconst (v := 1) hx hb dX4_isWithin_15 (by decide) ?_
      refine lv_goto (tgt := 32) hx hb dX4_isWithin_16 (by decide) ?_
      exact rtZ C0 hw rfl h dX4_isWithin_32
abbrev rm_X0_leavesWanted : Room := { frames := 3, cells := 0, slots := 0, locals := 66 }
set_option maxHeartbeats 4000000 in
set_option maxRecDepth 100000 in
theorem mb_X0_leavesWanted_49 {p : Program} {l : Launch} {e : Env} {s : State} {m : MethodId} {args : Array Value} {below : List Frame} {meth : Method} {c : Code} {D : va_G} {ad : Nat → Nat} {cI cJ cZ : ClassId} {A : Nat → Prop} {post : Int64 → CS → Prop} (C0 : Cx p s m args meth c cX0_leavesWanted 5 RX0 (some .long) D cI cJ cZ A) :
 ∀ (x2 : Int32) (x3 : Int32) (k0 : Int32) (S : CS) (H : Heap) (locs : List Loc) (ls : Array Slot), wp_X0_leavesWanted_49 post x2 x3 k0 S → Wd (WC ad cI cJ cZ) D A s.heap H locs S → lv_has ls 5 [(0, .ref (ad 4)), (2, .int x2), (3, .int x3)] → W p l e rm_X0_leavesWanted s m args below meth c H locs 0 0 (QL (WC ad cI cJ cZ) D A s args below post) (F0 m 49 ls [.int k0]) := by
  have hx := C0.1
  have hb := C0.2.1
  intro x2 x3 k0 S H locs ls h hw hl
  unfold wp_X0_leavesWanted_49 at h
  refine lv_istore (lv' := [(4, .int k0), (0, .ref (ad 4)), (2, .int x2), (3, .int x3)]) hx hb dX0_leavesWanted_49 hl (by decide) rfl (fun ls hl => ?_)
  refine lv_iload hx hb dX0_leavesWanted_51 (lv_at hl 0 rfl) ?_
  refine lv_if_eq (tgt := 68) hx hb dX0_leavesWanted_53 (by decide) (fun c53 => ?_) (fun c53 => ?_)
  · have h := h.1 c53
    refine lv_lconst (v := 0) hx hb dX0_leavesWanted_68 (by decide) ?_
    exact rtL C0 hw h dX0_leavesWanted_69
  · have h := h.2 c53
    refine lv_aload_n hx hb dX0_leavesWanted_56 rfl (lv_at hl 1 rfl) ?_
    refine gf_X0_variables C0 hw dX0_leavesWanted_57 ?_
    refine lv_iload_n hx hb dX0_leavesWanted_60 rfl (lv_at hl 2 rfl) ?_
    refine lv_iload_n hx hb dX0_leavesWanted_61 rfl (lv_at hl 3 rfl) ?_
    refine clVL (As := [.int x2, .int x3]) (rest := []) (ci := 3) (k := 1) C0 (m_X4_leavesOf l D ad cI cJ cZ S x2 x3 _ h) cal_X4_leavesOf kw_23 kw_22 kw_29 rfl rfl rfl rfl hl.1 rfl (Nat.le_of_ble_eq_true rfl) ⟨Nat.le_of_ble_eq_true rfl, Nat.le_of_ble_eq_true rfl⟩ rfl rfl dX0_leavesWanted_62 hw (fun r62 S62 H locs h hw => ?_)
    replace h := h
    refine lv_goto (tgt := 69) hx hb dX0_leavesWanted_65 (by decide) ?_
    exact rtL C0 hw h dX0_leavesWanted_69
set_option maxHeartbeats 4000000 in
set_option maxRecDepth 100000 in
theorem mb_X0_leavesWanted_44 {p : Program} {l : Launch} {e : Env} {s : State} {m : MethodId} {args : Array Value} {below : List Frame} {meth : Method} {c : Code} {D : va_G} {ad : Nat → Nat} {cI cJ cZ : ClassId} {A : Nat → Prop} {post : Int64 → CS → Prop} (C0 : Cx p s m args meth c cX0_leavesWanted 5 RX0 (some .long) D cI cJ cZ A) (K49 : Int32 → Int32 → Int32 → CS → Prop) (hK49 : ∀ (x2 : Int32) (x3 : Int32) (k0 : Int32) (S : CS) (H : Heap) (locs : List Loc) (ls : Array Slot), K49 x2 x3 k0 S → Wd (WC ad cI cJ cZ) D A s.heap H locs S → lv_has ls 5 [(0, .ref (ad 4)), (2, .int x2), (3, .int x3)] → W p l e rm_X0_leavesWanted s m args below meth c H locs 0 0 (QL (WC ad cI cJ cZ) D A s args below post) (F0 m 49 ls [.int k0])) :
 ∀ (x2 : Int32) (x3 : Int32) (S : CS) (H : Heap) (locs : List Loc) (ls : Array Slot), wp_X0_leavesWanted_44 K49 post x2 x3 S → Wd (WC ad cI cJ cZ) D A s.heap H locs S → lv_has ls 5 [(0, .ref (ad 4)), (2, .int x2), (3, .int x3)] → W p l e rm_X0_leavesWanted s m args below meth c H locs 0 0 (QL (WC ad cI cJ cZ) D A s args below post) (F0 m 44 ls []) := by
  have hx := C0.1
  have hb := C0.2.1
  intro x2 x3 S H locs ls h hw hl
  unfold wp_X0_leavesWanted_44 at h
  refine lv_iconst (v := 1) hx hb dX0_leavesWanted_44 (by decide) ?_
  refine lv_goto (tgt := 49) hx hb dX0_leavesWanted_45 (by decide) ?_
  replace hl := lv_sub hl [0, 1, 2] rfl
  exact hK49 x2 x3 (1 : Int32) S _ _ _ h hw hl
set_option maxHeartbeats 4000000 in
set_option maxRecDepth 100000 in
theorem mb_X0_leavesWanted_48 {p : Program} {l : Launch} {e : Env} {s : State} {m : MethodId} {args : Array Value} {below : List Frame} {meth : Method} {c : Code} {D : va_G} {ad : Nat → Nat} {cI cJ cZ : ClassId} {A : Nat → Prop} {post : Int64 → CS → Prop} (C0 : Cx p s m args meth c cX0_leavesWanted 5 RX0 (some .long) D cI cJ cZ A) (K49 : Int32 → Int32 → Int32 → CS → Prop) (hK49 : ∀ (x2 : Int32) (x3 : Int32) (k0 : Int32) (S : CS) (H : Heap) (locs : List Loc) (ls : Array Slot), K49 x2 x3 k0 S → Wd (WC ad cI cJ cZ) D A s.heap H locs S → lv_has ls 5 [(0, .ref (ad 4)), (2, .int x2), (3, .int x3)] → W p l e rm_X0_leavesWanted s m args below meth c H locs 0 0 (QL (WC ad cI cJ cZ) D A s args below post) (F0 m 49 ls [.int k0])) :
 ∀ (x2 : Int32) (x3 : Int32) (S : CS) (H : Heap) (locs : List Loc) (ls : Array Slot), wp_X0_leavesWanted_48 K49 post x2 x3 S → Wd (WC ad cI cJ cZ) D A s.heap H locs S → lv_has ls 5 [(0, .ref (ad 4)), (2, .int x2), (3, .int x3)] → W p l e rm_X0_leavesWanted s m args below meth c H locs 0 0 (QL (WC ad cI cJ cZ) D A s args below post) (F0 m 48 ls []) := by
  have hx := C0.1
  have hb := C0.2.1
  intro x2 x3 S H locs ls h hw hl
  unfold wp_X0_leavesWanted_48 at h
  refine lv_iconst (v := 0) hx hb dX0_leavesWanted_48 (by decide) ?_
  replace hl := lv_sub hl [0, 1, 2] rfl
  exact hK49 x2 x3 (0 : Int32) S _ _ _ h hw hl
set_option maxHeartbeats 4000000 in
set_option maxRecDepth 100000 in
theorem m_X0_leavesWanted (l : Launch) (D : va_G) (ad : Nat → Nat) (cI cJ cZ : ClassId) (S : CS) (x1 : Int32) (x2 : Int32) (x3 : Int32) (post : Int64 → CS → Prop) (h : wp_X0_leavesWanted S x1 x2 x3 post) : CL (WC ad cI cJ cZ) D cI cJ cZ l yX0_leavesWanted (.code yX0_leavesWanted cX0_leavesWanted 5 (some .long) :: gt) rm_X0_leavesWanted S [.ref (ad 4), .int x1, .int x2, .int x3] post := by
  refine enL (by decide) (Nat.le_of_ble_eq_true rfl) ?_
  intro p e s m below meth c A ls C0 hw hl
  have C0 : Cx p s m _ meth c cX0_leavesWanted 5 RX0 (some .long) D cI cJ cZ A := C0
  have hl : lv_has ls 5 [(0, .ref (ad 4)), (1, .int x1), (2, .int x2), (3, .int x3)] := hl
  have hx := C0.1
  have hb := C0.2.1
  unfold wp_X0_leavesWanted at h
  refine lv_iload_n hx hb dX0_leavesWanted_0 rfl (lv_at hl 1 rfl) ?_
  refine lv_iconst (v := 1) hx hb dX0_leavesWanted_1 (by decide) ?_
  refine lv_icmp_eq (tgt := 44) hx hb dX0_leavesWanted_2 (by decide) (fun c2 => ?_) (fun c2 => ?_)
  · have h := h.1 c2
    replace hl := lv_sub hl [0, 2, 3] rfl
    exact mb_X0_leavesWanted_44 C0 _ (fun x2 x3 k0 S H locs ls h hw hl => mb_X0_leavesWanted_49 C0 x2 x3 k0 S _ _ ls h hw hl) x2 x3 S _ _ ls h hw hl
  · have h := h.2 c2
    refine lv_iload_n hx hb dX0_leavesWanted_5 rfl (lv_at hl 1 rfl) ?_
    refine lv_iconst (v := 2) hx hb dX0_leavesWanted_6 (by decide) ?_
    refine lv_icmp_eq (tgt := 44) hx hb dX0_leavesWanted_7 (by decide) (fun c7 => ?_) (fun c7 => ?_)
    · have h := h.1 c7
      replace hl := lv_sub hl [0, 2, 3] rfl
      exact mb_X0_leavesWanted_44 C0 _ (fun x2 x3 k0 S H locs ls h hw hl => mb_X0_leavesWanted_49 C0 x2 x3 k0 S _ _ ls h hw hl) x2 x3 S _ _ ls h hw hl
    · have h := h.2 c7
      refine lv_iload_n hx hb dX0_leavesWanted_10 rfl (lv_at hl 1 rfl) ?_
      refine lv_iconst (v := 4) hx hb dX0_leavesWanted_11 (by decide) ?_
      refine lv_icmp_eq (tgt := 44) hx hb dX0_leavesWanted_12 (by decide) (fun c12 => ?_) (fun c12 => ?_)
      · have h := h.1 c12
        replace hl := lv_sub hl [0, 2, 3] rfl
        exact mb_X0_leavesWanted_44 C0 _ (fun x2 x3 k0 S H locs ls h hw hl => mb_X0_leavesWanted_49 C0 x2 x3 k0 S _ _ ls h hw hl) x2 x3 S _ _ ls h hw hl
      · have h := h.2 c12
        refine lv_iload_n hx hb dX0_leavesWanted_15 rfl (lv_at hl 1 rfl) ?_
        refine lv_bipush (v := 7) hx hb dX0_leavesWanted_16 (by decide) ?_
        refine lv_icmp_eq (tgt := 44) hx hb dX0_leavesWanted_18 (by decide) (fun c18 => ?_) (fun c18 => ?_)
        · have h := h.1 c18
          replace hl := lv_sub hl [0, 2, 3] rfl
          exact mb_X0_leavesWanted_44 C0 _ (fun x2 x3 k0 S H locs ls h hw hl => mb_X0_leavesWanted_49 C0 x2 x3 k0 S _ _ ls h hw hl) x2 x3 S _ _ ls h hw hl
        · have h := h.2 c18
          refine lv_iload_n hx hb dX0_leavesWanted_21 rfl (lv_at hl 1 rfl) ?_
          refine lv_bipush (v := 8) hx hb dX0_leavesWanted_22 (by decide) ?_
          refine lv_icmp_eq (tgt := 44) hx hb dX0_leavesWanted_24 (by decide) (fun c24 => ?_) (fun c24 => ?_)
          · have h := h.1 c24
            replace hl := lv_sub hl [0, 2, 3] rfl
            exact mb_X0_leavesWanted_44 C0 _ (fun x2 x3 k0 S H locs ls h hw hl => mb_X0_leavesWanted_49 C0 x2 x3 k0 S _ _ ls h hw hl) x2 x3 S _ _ ls h hw hl
          · have h := h.2 c24
            refine lv_iload_n hx hb dX0_leavesWanted_27 rfl (lv_at hl 1 rfl) ?_
            refine lv_iconst (v := 3) hx hb dX0_leavesWanted_28 (by decide) ?_
            refine lv_icmp_ne (tgt := 48) hx hb dX0_leavesWanted_29 (by decide) (fun c29 => ?_) (fun c29 => ?_)
            · have h := h.1 c29
              replace hl := lv_sub hl [0, 2, 3] rfl
              exact mb_X0_leavesWanted_48 C0 _ (fun x2 x3 k0 S H locs ls h hw hl => mb_X0_leavesWanted_49 C0 x2 x3 k0 S _ _ ls h hw hl) x2 x3 S _ _ ls h hw hl
            · have h := h.2 c29
              refine lv_aload_n hx hb dX0_leavesWanted_32 rfl (lv_at hl 0 rfl) ?_
              refine gf_X0_variables C0 hw dX0_leavesWanted_33 ?_
              refine lv_iload_n hx hb dX0_leavesWanted_36 rfl (lv_at hl 2 rfl) ?_
              refine lv_iload_n hx hb dX0_leavesWanted_37 rfl (lv_at hl 3 rfl) ?_
              refine clVI (As := [.int x2, .int x3]) (rest := []) (ci := 3) (k := 1) C0 (m_X4_isWithin l D ad cI cJ cZ S x2 x3 _ h) cal_X4_isWithin kw_34 kw_33 kw_32 rfl rfl rfl rfl hl.1 rfl (Nat.le_of_ble_eq_true rfl) ⟨Nat.le_of_ble_eq_true rfl, Nat.le_of_ble_eq_true rfl⟩ rfl rfl dX0_leavesWanted_38 hw (fun r38 S38 H locs h hw => ?_)
              replace h := h
              refine lv_if_eq (tgt := 48) hx hb dX0_leavesWanted_41 (by decide) (fun c41 => ?_) (fun c41 => ?_)
              · have h := h.1 c41
                replace hl := lv_sub hl [0, 2, 3] rfl
                exact mb_X0_leavesWanted_48 C0 _ (fun x2 x3 k0 S H locs ls h hw hl => mb_X0_leavesWanted_49 C0 x2 x3 k0 S _ _ ls h hw hl) x2 x3 S38 _ _ ls h hw hl
              · have h := h.2 c41
                replace hl := lv_sub hl [0, 2, 3] rfl
                exact mb_X0_leavesWanted_44 C0 _ (fun x2 x3 k0 S H locs ls h hw hl => mb_X0_leavesWanted_49 C0 x2 x3 k0 S _ _ ls h hw hl) x2 x3 S38 _ _ ls h hw hl
abbrev rm_X0_leavesGiven : Room := { frames := 3, cells := 0, slots := 0, locals := 66 }
set_option maxHeartbeats 4000000 in
set_option maxRecDepth 100000 in
theorem mb_X0_leavesGiven_12 {p : Program} {l : Launch} {e : Env} {s : State} {m : MethodId} {args : Array Value} {below : List Frame} {meth : Method} {c : Code} {D : va_G} {ad : Nat → Nat} {cI cJ cZ : ClassId} {A : Nat → Prop} {post : Int64 → CS → Prop} (C0 : Cx p s m args meth c cX0_leavesGiven 6 RX0 (some .long) D cI cJ cZ A) :
 ∀ (x4 : Int32) (S : CS) (H : Heap) (locs : List Loc) (ls : Array Slot), wp_X0_leavesGiven_12 post x4 S → Wd (WC ad cI cJ cZ) D A s.heap H locs S → lv_has ls 6 [(0, .ref (ad 4)), (4, .int x4)] → W p l e rm_X0_leavesGiven s m args below meth c H locs 0 0 (QL (WC ad cI cJ cZ) D A s args below post) (F0 m 12 ls []) := by
  have hx := C0.1
  have hb := C0.2.1
  intro x4 S H locs ls h hw hl
  unfold wp_X0_leavesGiven_12 at h
  refine lv_aload_n hx hb dX0_leavesGiven_12 rfl (lv_at hl 0 rfl) ?_
  refine gf_X0_variables C0 hw dX0_leavesGiven_13 ?_
  refine lv_iload hx hb dX0_leavesGiven_16 (lv_at hl 1 rfl) ?_
  refine lv_iconst (v := 0) hx hb dX0_leavesGiven_18 (by decide) ?_
  refine clVL (As := [.int x4, .int (0 : Int32)]) (rest := []) (ci := 3) (k := 1) C0 (m_X4_leavesOf l D ad cI cJ cZ S x4 (0 : Int32) _ h) cal_X4_leavesOf kw_23 kw_22 kw_29 rfl rfl rfl rfl hl.1 rfl (Nat.le_of_ble_eq_true rfl) ⟨Nat.le_of_ble_eq_true rfl, Nat.le_of_ble_eq_true rfl⟩ rfl rfl dX0_leavesGiven_19 hw (fun r19 S19 H locs h hw => ?_)
  replace h := h
  exact rtL C0 hw h dX0_leavesGiven_22
set_option maxHeartbeats 4000000 in
set_option maxRecDepth 100000 in
theorem mb_X0_leavesGiven_45 {p : Program} {l : Launch} {e : Env} {s : State} {m : MethodId} {args : Array Value} {below : List Frame} {meth : Method} {c : Code} {D : va_G} {ad : Nat → Nat} {cI cJ cZ : ClassId} {A : Nat → Prop} {post : Int64 → CS → Prop} (C0 : Cx p s m args meth c cX0_leavesGiven 6 RX0 (some .long) D cI cJ cZ A) :
 ∀ (x2 : Int32) (x3 : Int32) (k0 : Int32) (S : CS) (H : Heap) (locs : List Loc) (ls : Array Slot), wp_X0_leavesGiven_45 post x2 x3 k0 S → Wd (WC ad cI cJ cZ) D A s.heap H locs S → lv_has ls 6 [(0, .ref (ad 4)), (2, .int x2), (3, .int x3)] → W p l e rm_X0_leavesGiven s m args below meth c H locs 0 0 (QL (WC ad cI cJ cZ) D A s args below post) (F0 m 45 ls [.int k0]) := by
  have hx := C0.1
  have hb := C0.2.1
  intro x2 x3 k0 S H locs ls h hw hl
  unfold wp_X0_leavesGiven_45 at h
  refine lv_istore (lv' := [(5, .int k0), (0, .ref (ad 4)), (2, .int x2), (3, .int x3)]) hx hb dX0_leavesGiven_45 hl (by decide) rfl (fun ls hl => ?_)
  refine lv_iload hx hb dX0_leavesGiven_47 (lv_at hl 0 rfl) ?_
  refine lv_if_eq (tgt := 64) hx hb dX0_leavesGiven_49 (by decide) (fun c49 => ?_) (fun c49 => ?_)
  · have h := h.1 c49
    refine lv_lconst (v := 0) hx hb dX0_leavesGiven_64 (by decide) ?_
    exact rtL C0 hw h dX0_leavesGiven_65
  · have h := h.2 c49
    refine lv_aload_n hx hb dX0_leavesGiven_52 rfl (lv_at hl 1 rfl) ?_
    refine gf_X0_variables C0 hw dX0_leavesGiven_53 ?_
    refine lv_iload_n hx hb dX0_leavesGiven_56 rfl (lv_at hl 2 rfl) ?_
    refine lv_iload_n hx hb dX0_leavesGiven_57 rfl (lv_at hl 3 rfl) ?_
    refine clVL (As := [.int x2, .int x3]) (rest := []) (ci := 3) (k := 1) C0 (m_X4_leavesOf l D ad cI cJ cZ S x2 x3 _ h) cal_X4_leavesOf kw_23 kw_22 kw_29 rfl rfl rfl rfl hl.1 rfl (Nat.le_of_ble_eq_true rfl) ⟨Nat.le_of_ble_eq_true rfl, Nat.le_of_ble_eq_true rfl⟩ rfl rfl dX0_leavesGiven_58 hw (fun r58 S58 H locs h hw => ?_)
    replace h := h
    refine lv_goto (tgt := 65) hx hb dX0_leavesGiven_61 (by decide) ?_
    exact rtL C0 hw h dX0_leavesGiven_65
set_option maxHeartbeats 4000000 in
set_option maxRecDepth 100000 in
theorem mb_X0_leavesGiven_44 {p : Program} {l : Launch} {e : Env} {s : State} {m : MethodId} {args : Array Value} {below : List Frame} {meth : Method} {c : Code} {D : va_G} {ad : Nat → Nat} {cI cJ cZ : ClassId} {A : Nat → Prop} {post : Int64 → CS → Prop} (C0 : Cx p s m args meth c cX0_leavesGiven 6 RX0 (some .long) D cI cJ cZ A) (K45 : Int32 → Int32 → Int32 → CS → Prop) (hK45 : ∀ (x2 : Int32) (x3 : Int32) (k0 : Int32) (S : CS) (H : Heap) (locs : List Loc) (ls : Array Slot), K45 x2 x3 k0 S → Wd (WC ad cI cJ cZ) D A s.heap H locs S → lv_has ls 6 [(0, .ref (ad 4)), (2, .int x2), (3, .int x3)] → W p l e rm_X0_leavesGiven s m args below meth c H locs 0 0 (QL (WC ad cI cJ cZ) D A s args below post) (F0 m 45 ls [.int k0])) :
 ∀ (x2 : Int32) (x3 : Int32) (S : CS) (H : Heap) (locs : List Loc) (ls : Array Slot), wp_X0_leavesGiven_44 K45 post x2 x3 S → Wd (WC ad cI cJ cZ) D A s.heap H locs S → lv_has ls 6 [(0, .ref (ad 4)), (2, .int x2), (3, .int x3)] → W p l e rm_X0_leavesGiven s m args below meth c H locs 0 0 (QL (WC ad cI cJ cZ) D A s args below post) (F0 m 44 ls []) := by
  have hx := C0.1
  have hb := C0.2.1
  intro x2 x3 S H locs ls h hw hl
  unfold wp_X0_leavesGiven_44 at h
  refine lv_iconst (v := 0) hx hb dX0_leavesGiven_44 (by decide) ?_
  replace hl := lv_sub hl [0, 1, 2] rfl
  exact hK45 x2 x3 (0 : Int32) S _ _ _ h hw hl
set_option maxHeartbeats 4000000 in
set_option maxRecDepth 100000 in
theorem m_X0_leavesGiven (l : Launch) (D : va_G) (ad : Nat → Nat) (cI cJ cZ : ClassId) (S : CS) (x1 : Int32) (x2 : Int32) (x3 : Int32) (x4 : Int32) (post : Int64 → CS → Prop) (h : wp_X0_leavesGiven S x1 x2 x3 x4 post) : CL (WC ad cI cJ cZ) D cI cJ cZ l yX0_leavesGiven (.code yX0_leavesGiven cX0_leavesGiven 6 (some .long) :: gt) rm_X0_leavesGiven S [.ref (ad 4), .int x1, .int x2, .int x3, .int x4] post := by
  refine enL (by decide) (Nat.le_of_ble_eq_true rfl) ?_
  intro p e s m below meth c A ls C0 hw hl
  have C0 : Cx p s m _ meth c cX0_leavesGiven 6 RX0 (some .long) D cI cJ cZ A := C0
  have hl : lv_has ls 6 [(0, .ref (ad 4)), (1, .int x1), (2, .int x2), (3, .int x3), (4, .int x4)] := hl
  have hx := C0.1
  have hb := C0.2.1
  unfold wp_X0_leavesGiven at h
  refine lv_iload_n hx hb dX0_leavesGiven_0 rfl (lv_at hl 1 rfl) ?_
  refine lv_bipush (v := 7) hx hb dX0_leavesGiven_1 (by decide) ?_
  refine lv_icmp_eq (tgt := 12) hx hb dX0_leavesGiven_3 (by decide) (fun c3 => ?_) (fun c3 => ?_)
  · have h := h.1 c3
    replace hl := lv_sub hl [0, 4] rfl
    exact mb_X0_leavesGiven_12 C0 x4 S _ _ ls h hw hl
  · have h := h.2 c3
    refine lv_iload_n hx hb dX0_leavesGiven_6 rfl (lv_at hl 1 rfl) ?_
    refine lv_bipush (v := 8) hx hb dX0_leavesGiven_7 (by decide) ?_
    refine lv_icmp_ne (tgt := 23) hx hb dX0_leavesGiven_9 (by decide) (fun c9 => ?_) (fun c9 => ?_)
    · have h := h.1 c9
      refine lv_iload_n hx hb dX0_leavesGiven_23 rfl (lv_at hl 1 rfl) ?_
      refine lv_iconst (v := 3) hx hb dX0_leavesGiven_24 (by decide) ?_
      refine lv_icmp_ne (tgt := 44) hx hb dX0_leavesGiven_25 (by decide) (fun c25 => ?_) (fun c25 => ?_)
      · have h := h.1 c25
        replace hl := lv_sub hl [0, 2, 3] rfl
        exact mb_X0_leavesGiven_44 C0 _ (fun x2 x3 k0 S H locs ls h hw hl => mb_X0_leavesGiven_45 C0 x2 x3 k0 S _ _ ls h hw hl) x2 x3 S _ _ ls h hw hl
      · have h := h.2 c25
        refine lv_aload_n hx hb dX0_leavesGiven_28 rfl (lv_at hl 0 rfl) ?_
        refine gf_X0_variables C0 hw dX0_leavesGiven_29 ?_
        refine lv_iload_n hx hb dX0_leavesGiven_32 rfl (lv_at hl 2 rfl) ?_
        refine lv_iload_n hx hb dX0_leavesGiven_33 rfl (lv_at hl 3 rfl) ?_
        refine clVI (As := [.int x2, .int x3]) (rest := []) (ci := 3) (k := 1) C0 (m_X4_isWithin l D ad cI cJ cZ S x2 x3 _ h) cal_X4_isWithin kw_34 kw_33 kw_32 rfl rfl rfl rfl hl.1 rfl (Nat.le_of_ble_eq_true rfl) ⟨Nat.le_of_ble_eq_true rfl, Nat.le_of_ble_eq_true rfl⟩ rfl rfl dX0_leavesGiven_34 hw (fun r34 S34 H locs h hw => ?_)
        replace h := h
        refine lv_if_ne (tgt := 44) hx hb dX0_leavesGiven_37 (by decide) (fun c37 => ?_) (fun c37 => ?_)
        · have h := h.1 c37
          replace hl := lv_sub hl [0, 2, 3] rfl
          exact mb_X0_leavesGiven_44 C0 _ (fun x2 x3 k0 S H locs ls h hw hl => mb_X0_leavesGiven_45 C0 x2 x3 k0 S _ _ ls h hw hl) x2 x3 S34 _ _ ls h hw hl
        · have h := h.2 c37
          refine lv_iconst (v := 1) hx hb dX0_leavesGiven_40 (by decide) ?_
          refine lv_goto (tgt := 45) hx hb dX0_leavesGiven_41 (by decide) ?_
          replace hl := lv_sub hl [0, 2, 3] rfl
          exact mb_X0_leavesGiven_45 C0 x2 x3 (1 : Int32) S34 _ _ ls h hw hl
    · have h := h.2 c9
      replace hl := lv_sub hl [0, 4] rfl
      exact mb_X0_leavesGiven_12 C0 x4 S _ _ ls h hw hl
abbrev rm_X4_isSole : Room := { frames := 1, cells := 0, slots := 0, locals := 21 }
set_option maxHeartbeats 4000000 in
set_option maxRecDepth 100000 in
theorem m_X4_isSole (l : Launch) (D : va_G) (ad : Nat → Nat) (cI cJ cZ : ClassId) (S : CS) (x1 : Int32) (post : Int32 → CS → Prop) (h : wp_X4_isSole S x1 post) : CI (WC ad cI cJ cZ) D cI cJ cZ l yX4_isSole (.code yX4_isSole cX4_isSole 2 (some .boolean) :: gt) rm_X4_isSole S [.ref (ad 1), .int x1] post := by
  refine enI (by decide) (Nat.le_of_ble_eq_true rfl) ?_
  intro p e s m below meth c A ls C0 hw hl
  have C0 : Cx p s m _ meth c cX4_isSole 2 RX4 (some .boolean) D cI cJ cZ A := C0
  have hl : lv_has ls 2 [(0, .ref (ad 1)), (1, .int x1)] := hl
  have hx := C0.1
  have hb := C0.2.1
  unfold wp_X4_isSole at h
  refine lv_aload_n hx hb dX4_isSole_0 rfl (lv_at hl 0 rfl) ?_
  refine lv_iload_n hx hb dX4_isSole_1 rfl (lv_at hl 1 rfl) ?_
  refine clVI (As := [.int x1]) (rest := []) (ci := 3) (k := 1) C0 (m_X4_has l D ad cI cJ cZ S x1 _ h) cal_X4_has kw_13 kw_12 kw_14 rfl rfl rfl rfl hl.1 rfl (Nat.le_of_ble_eq_true rfl) ⟨Nat.le_of_ble_eq_true rfl, Nat.le_of_ble_eq_true rfl⟩ rfl rfl dX4_isSole_2 hw (fun r2 S2 H locs h hw => ?_)
  replace h := h
  refine lv_if_eq (tgt := 22) hx hb dX4_isSole_5 (by decide) (fun c5 => ?_) (fun c5 => ?_)
  · have h := h.1 c5
    refine lv_iconst (v := 0) hx hb dX4_isSole_22 (by decide) ?_
    exact rtZ C0 hw rfl h dX4_isSole_23
  · have h := h.2 c5
    refine lv_aload_n hx hb dX4_isSole_8 rfl (lv_at hl 0 rfl) ?_
    refine gf_X4_sorts C0 hw dX4_isSole_9 ?_
    refine lv_iload_n hx hb dX4_isSole_12 rfl (lv_at hl 1 rfl) ?_
    refine ld_C_sorts C0 hw h.1 dX4_isSole_13 ?_
    have h := h.2
    refine lv_iconst (v := 2) hx hb dX4_isSole_14 (by decide) ?_
    refine lv_icmp_ne (tgt := 22) hx hb dX4_isSole_15 (by decide) (fun c15 => ?_) (fun c15 => ?_)
    · have h := h.1 c15
      refine lv_iconst (v := 0) hx hb dX4_isSole_22 (by decide) ?_
      exact rtZ C0 hw rfl h dX4_isSole_23
    · have h := h.2 c15
      refine lv_iconst (v := 1) hx hb dX4_isSole_18 (by decide) ?_
      refine lv_goto (tgt := 23) hx hb dX4_isSole_19 (by decide) ?_
      exact rtZ C0 hw rfl h dX4_isSole_23
abbrev rm_X0_leavesTaken : Room := { frames := 3, cells := 0, slots := 0, locals := 66 }
set_option maxHeartbeats 4000000 in
set_option maxRecDepth 100000 in
theorem mb_X0_leavesTaken_32 {p : Program} {l : Launch} {e : Env} {s : State} {m : MethodId} {args : Array Value} {below : List Frame} {meth : Method} {c : Code} {D : va_G} {ad : Nat → Nat} {cI cJ cZ : ClassId} {A : Nat → Prop} {post : Int64 → CS → Prop} (C0 : Cx p s m args meth c cX0_leavesTaken 5 RX0 (some .long) D cI cJ cZ A) :
 ∀ (x2 : Int32) (x3 : Int32) (k0 : Int32) (S : CS) (H : Heap) (locs : List Loc) (ls : Array Slot), wp_X0_leavesTaken_32 post x2 x3 k0 S → Wd (WC ad cI cJ cZ) D A s.heap H locs S → lv_has ls 5 [(0, .ref (ad 4)), (2, .int x2), (3, .int x3)] → W p l e rm_X0_leavesTaken s m args below meth c H locs 0 0 (QL (WC ad cI cJ cZ) D A s args below post) (F0 m 32 ls [.int k0]) := by
  have hx := C0.1
  have hb := C0.2.1
  intro x2 x3 k0 S H locs ls h hw hl
  unfold wp_X0_leavesTaken_32 at h
  refine lv_istore (lv' := [(4, .int k0), (0, .ref (ad 4)), (2, .int x2), (3, .int x3)]) hx hb dX0_leavesTaken_32 hl (by decide) rfl (fun ls hl => ?_)
  refine lv_iload hx hb dX0_leavesTaken_34 (lv_at hl 0 rfl) ?_
  refine lv_if_eq (tgt := 51) hx hb dX0_leavesTaken_36 (by decide) (fun c36 => ?_) (fun c36 => ?_)
  · have h := h.1 c36
    refine lv_lconst (v := 0) hx hb dX0_leavesTaken_51 (by decide) ?_
    exact rtL C0 hw h dX0_leavesTaken_52
  · have h := h.2 c36
    refine lv_aload_n hx hb dX0_leavesTaken_39 rfl (lv_at hl 1 rfl) ?_
    refine gf_X0_variables C0 hw dX0_leavesTaken_40 ?_
    refine lv_iload_n hx hb dX0_leavesTaken_43 rfl (lv_at hl 2 rfl) ?_
    refine lv_iload_n hx hb dX0_leavesTaken_44 rfl (lv_at hl 3 rfl) ?_
    refine clVL (As := [.int x2, .int x3]) (rest := []) (ci := 3) (k := 1) C0 (m_X4_leavesOf l D ad cI cJ cZ S x2 x3 _ h) cal_X4_leavesOf kw_23 kw_22 kw_29 rfl rfl rfl rfl hl.1 rfl (Nat.le_of_ble_eq_true rfl) ⟨Nat.le_of_ble_eq_true rfl, Nat.le_of_ble_eq_true rfl⟩ rfl rfl dX0_leavesTaken_45 hw (fun r45 S45 H locs h hw => ?_)
    replace h := h
    refine lv_goto (tgt := 52) hx hb dX0_leavesTaken_48 (by decide) ?_
    exact rtL C0 hw h dX0_leavesTaken_52
set_option maxHeartbeats 4000000 in
set_option maxRecDepth 100000 in
theorem mb_X0_leavesTaken_27 {p : Program} {l : Launch} {e : Env} {s : State} {m : MethodId} {args : Array Value} {below : List Frame} {meth : Method} {c : Code} {D : va_G} {ad : Nat → Nat} {cI cJ cZ : ClassId} {A : Nat → Prop} {post : Int64 → CS → Prop} (C0 : Cx p s m args meth c cX0_leavesTaken 5 RX0 (some .long) D cI cJ cZ A) (K32 : Int32 → Int32 → Int32 → CS → Prop) (hK32 : ∀ (x2 : Int32) (x3 : Int32) (k0 : Int32) (S : CS) (H : Heap) (locs : List Loc) (ls : Array Slot), K32 x2 x3 k0 S → Wd (WC ad cI cJ cZ) D A s.heap H locs S → lv_has ls 5 [(0, .ref (ad 4)), (2, .int x2), (3, .int x3)] → W p l e rm_X0_leavesTaken s m args below meth c H locs 0 0 (QL (WC ad cI cJ cZ) D A s args below post) (F0 m 32 ls [.int k0])) :
 ∀ (x2 : Int32) (x3 : Int32) (S : CS) (H : Heap) (locs : List Loc) (ls : Array Slot), wp_X0_leavesTaken_27 K32 post x2 x3 S → Wd (WC ad cI cJ cZ) D A s.heap H locs S → lv_has ls 5 [(0, .ref (ad 4)), (2, .int x2), (3, .int x3)] → W p l e rm_X0_leavesTaken s m args below meth c H locs 0 0 (QL (WC ad cI cJ cZ) D A s args below post) (F0 m 27 ls []) := by
  have hx := C0.1
  have hb := C0.2.1
  intro x2 x3 S H locs ls h hw hl
  unfold wp_X0_leavesTaken_27 at h
  refine lv_iconst (v := 1) hx hb dX0_leavesTaken_27 (by decide) ?_
  refine lv_goto (tgt := 32) hx hb dX0_leavesTaken_28 (by decide) ?_
  replace hl := lv_sub hl [0, 1, 2] rfl
  exact hK32 x2 x3 (1 : Int32) S _ _ _ h hw hl
set_option maxHeartbeats 4000000 in
set_option maxRecDepth 100000 in
theorem mb_X0_leavesTaken_31 {p : Program} {l : Launch} {e : Env} {s : State} {m : MethodId} {args : Array Value} {below : List Frame} {meth : Method} {c : Code} {D : va_G} {ad : Nat → Nat} {cI cJ cZ : ClassId} {A : Nat → Prop} {post : Int64 → CS → Prop} (C0 : Cx p s m args meth c cX0_leavesTaken 5 RX0 (some .long) D cI cJ cZ A) (K32 : Int32 → Int32 → Int32 → CS → Prop) (hK32 : ∀ (x2 : Int32) (x3 : Int32) (k0 : Int32) (S : CS) (H : Heap) (locs : List Loc) (ls : Array Slot), K32 x2 x3 k0 S → Wd (WC ad cI cJ cZ) D A s.heap H locs S → lv_has ls 5 [(0, .ref (ad 4)), (2, .int x2), (3, .int x3)] → W p l e rm_X0_leavesTaken s m args below meth c H locs 0 0 (QL (WC ad cI cJ cZ) D A s args below post) (F0 m 32 ls [.int k0])) :
 ∀ (x2 : Int32) (x3 : Int32) (S : CS) (H : Heap) (locs : List Loc) (ls : Array Slot), wp_X0_leavesTaken_31 K32 post x2 x3 S → Wd (WC ad cI cJ cZ) D A s.heap H locs S → lv_has ls 5 [(0, .ref (ad 4)), (2, .int x2), (3, .int x3)] → W p l e rm_X0_leavesTaken s m args below meth c H locs 0 0 (QL (WC ad cI cJ cZ) D A s args below post) (F0 m 31 ls []) := by
  have hx := C0.1
  have hb := C0.2.1
  intro x2 x3 S H locs ls h hw hl
  unfold wp_X0_leavesTaken_31 at h
  refine lv_iconst (v := 0) hx hb dX0_leavesTaken_31 (by decide) ?_
  replace hl := lv_sub hl [0, 1, 2] rfl
  exact hK32 x2 x3 (0 : Int32) S _ _ _ h hw hl
set_option maxHeartbeats 4000000 in
set_option maxRecDepth 100000 in
theorem m_X0_leavesTaken (l : Launch) (D : va_G) (ad : Nat → Nat) (cI cJ cZ : ClassId) (S : CS) (x1 : Int32) (x2 : Int32) (x3 : Int32) (post : Int64 → CS → Prop) (h : wp_X0_leavesTaken S x1 x2 x3 post) : CL (WC ad cI cJ cZ) D cI cJ cZ l yX0_leavesTaken (.code yX0_leavesTaken cX0_leavesTaken 5 (some .long) :: gt) rm_X0_leavesTaken S [.ref (ad 4), .int x1, .int x2, .int x3] post := by
  refine enL (by decide) (Nat.le_of_ble_eq_true rfl) ?_
  intro p e s m below meth c A ls C0 hw hl
  have C0 : Cx p s m _ meth c cX0_leavesTaken 5 RX0 (some .long) D cI cJ cZ A := C0
  have hl : lv_has ls 5 [(0, .ref (ad 4)), (1, .int x1), (2, .int x2), (3, .int x3)] := hl
  have hx := C0.1
  have hb := C0.2.1
  unfold wp_X0_leavesTaken at h
  refine lv_iload_n hx hb dX0_leavesTaken_0 rfl (lv_at hl 1 rfl) ?_
  refine lv_iconst (v := 2) hx hb dX0_leavesTaken_1 (by decide) ?_
  refine lv_icmp_eq (tgt := 27) hx hb dX0_leavesTaken_2 (by decide) (fun c2 => ?_) (fun c2 => ?_)
  · have h := h.1 c2
    replace hl := lv_sub hl [0, 2, 3] rfl
    exact mb_X0_leavesTaken_27 C0 _ (fun x2 x3 k0 S H locs ls h hw hl => mb_X0_leavesTaken_32 C0 x2 x3 k0 S _ _ ls h hw hl) x2 x3 S _ _ ls h hw hl
  · have h := h.2 c2
    refine lv_iload_n hx hb dX0_leavesTaken_5 rfl (lv_at hl 1 rfl) ?_
    refine lv_iconst (v := 5) hx hb dX0_leavesTaken_6 (by decide) ?_
    refine lv_icmp_eq (tgt := 27) hx hb dX0_leavesTaken_7 (by decide) (fun c7 => ?_) (fun c7 => ?_)
    · have h := h.1 c7
      replace hl := lv_sub hl [0, 2, 3] rfl
      exact mb_X0_leavesTaken_27 C0 _ (fun x2 x3 k0 S H locs ls h hw hl => mb_X0_leavesTaken_32 C0 x2 x3 k0 S _ _ ls h hw hl) x2 x3 S _ _ ls h hw hl
    · have h := h.2 c7
      refine lv_iload_n hx hb dX0_leavesTaken_10 rfl (lv_at hl 1 rfl) ?_
      refine lv_bipush (v := 8) hx hb dX0_leavesTaken_11 (by decide) ?_
      refine lv_icmp_ne (tgt := 31) hx hb dX0_leavesTaken_13 (by decide) (fun c13 => ?_) (fun c13 => ?_)
      · have h := h.1 c13
        replace hl := lv_sub hl [0, 2, 3] rfl
        exact mb_X0_leavesTaken_31 C0 _ (fun x2 x3 k0 S H locs ls h hw hl => mb_X0_leavesTaken_32 C0 x2 x3 k0 S _ _ ls h hw hl) x2 x3 S _ _ ls h hw hl
      · have h := h.2 c13
        refine lv_aload_n hx hb dX0_leavesTaken_16 rfl (lv_at hl 0 rfl) ?_
        refine gf_X0_variables C0 hw dX0_leavesTaken_17 ?_
        refine lv_iload_n hx hb dX0_leavesTaken_20 rfl (lv_at hl 2 rfl) ?_
        refine clVI (As := [.int x2]) (rest := []) (ci := 3) (k := 1) C0 (m_X4_isSole l D ad cI cJ cZ S x2 _ h) cal_X4_isSole kw_43 kw_42 kw_41 rfl rfl rfl rfl hl.1 rfl (Nat.le_of_ble_eq_true rfl) ⟨Nat.le_of_ble_eq_true rfl, Nat.le_of_ble_eq_true rfl⟩ rfl rfl dX0_leavesTaken_21 hw (fun r21 S21 H locs h hw => ?_)
        replace h := h
        refine lv_if_eq (tgt := 31) hx hb dX0_leavesTaken_24 (by decide) (fun c24 => ?_) (fun c24 => ?_)
        · have h := h.1 c24
          replace hl := lv_sub hl [0, 2, 3] rfl
          exact mb_X0_leavesTaken_31 C0 _ (fun x2 x3 k0 S H locs ls h hw hl => mb_X0_leavesTaken_32 C0 x2 x3 k0 S _ _ ls h hw hl) x2 x3 S21 _ _ ls h hw hl
        · have h := h.2 c24
          replace hl := lv_sub hl [0, 2, 3] rfl
          exact mb_X0_leavesTaken_27 C0 _ (fun x2 x3 k0 S H locs ls h hw hl => mb_X0_leavesTaken_32 C0 x2 x3 k0 S _ _ ls h hw hl) x2 x3 S21 _ _ ls h hw hl
abbrev rm_X0_isOnPlace : Room := { frames := 0, cells := 0, slots := 0, locals := 0 }
set_option maxHeartbeats 4000000 in
set_option maxRecDepth 100000 in
theorem m_X0_isOnPlace (l : Launch) (D : va_G) (ad : Nat → Nat) (cI cJ cZ : ClassId) (S : CS) (x0 : Int32) (post : Int32 → CS → Prop) (h : wp_X0_isOnPlace S x0 post) : CI (WC ad cI cJ cZ) D cI cJ cZ l yX0_isOnPlace (.code yX0_isOnPlace cX0_isOnPlace 1 (some .boolean) :: gt) rm_X0_isOnPlace S [.int x0] post := by
  refine enI (by decide) (Nat.le_of_ble_eq_true rfl) ?_
  intro p e s m below meth c A ls C0 hw hl
  have C0 : Cx p s m _ meth c cX0_isOnPlace 1 RX0 (some .boolean) D cI cJ cZ A := C0
  have hl : lv_has ls 1 [(0, .int x0)] := hl
  have hx := C0.1
  have hb := C0.2.1
  unfold wp_X0_isOnPlace at h
  refine lv_iload_n hx hb dX0_isOnPlace_0 rfl (lv_at hl 0 rfl) ?_
  refine lv_iconst (v := 1) hx hb dX0_isOnPlace_1 (by decide) ?_
  refine lv_icmp_eq (tgt := 26) hx hb dX0_isOnPlace_2 (by decide) (fun c2 => ?_) (fun c2 => ?_)
  · have h := h.1 c2
    refine lv_iconst (v := 1) hx hb dX0_isOnPlace_26 (by decide) ?_
    refine lv_goto (tgt := 31) hx hb dX0_isOnPlace_27 (by decide) ?_
    exact rtZ C0 hw rfl h dX0_isOnPlace_31
  · have h := h.2 c2
    refine lv_iload_n hx hb dX0_isOnPlace_5 rfl (lv_at hl 0 rfl) ?_
    refine lv_iconst (v := 2) hx hb dX0_isOnPlace_6 (by decide) ?_
    refine lv_icmp_eq (tgt := 26) hx hb dX0_isOnPlace_7 (by decide) (fun c7 => ?_) (fun c7 => ?_)
    · have h := h.1 c7
      refine lv_iconst (v := 1) hx hb dX0_isOnPlace_26 (by decide) ?_
      refine lv_goto (tgt := 31) hx hb dX0_isOnPlace_27 (by decide) ?_
      exact rtZ C0 hw rfl h dX0_isOnPlace_31
    · have h := h.2 c7
      refine lv_iload_n hx hb dX0_isOnPlace_10 rfl (lv_at hl 0 rfl) ?_
      refine lv_iconst (v := 3) hx hb dX0_isOnPlace_11 (by decide) ?_
      refine lv_icmp_eq (tgt := 26) hx hb dX0_isOnPlace_12 (by decide) (fun c12 => ?_) (fun c12 => ?_)
      · have h := h.1 c12
        refine lv_iconst (v := 1) hx hb dX0_isOnPlace_26 (by decide) ?_
        refine lv_goto (tgt := 31) hx hb dX0_isOnPlace_27 (by decide) ?_
        exact rtZ C0 hw rfl h dX0_isOnPlace_31
      · have h := h.2 c12
        refine lv_iload_n hx hb dX0_isOnPlace_15 rfl (lv_at hl 0 rfl) ?_
        refine lv_iconst (v := 4) hx hb dX0_isOnPlace_16 (by decide) ?_
        refine lv_icmp_eq (tgt := 26) hx hb dX0_isOnPlace_17 (by decide) (fun c17 => ?_) (fun c17 => ?_)
        · have h := h.1 c17
          refine lv_iconst (v := 1) hx hb dX0_isOnPlace_26 (by decide) ?_
          refine lv_goto (tgt := 31) hx hb dX0_isOnPlace_27 (by decide) ?_
          exact rtZ C0 hw rfl h dX0_isOnPlace_31
        · have h := h.2 c17
          refine lv_iload_n hx hb dX0_isOnPlace_20 rfl (lv_at hl 0 rfl) ?_
          refine lv_bipush (v := 7) hx hb dX0_isOnPlace_21 (by decide) ?_
          refine lv_icmp_ne (tgt := 30) hx hb dX0_isOnPlace_23 (by decide) (fun c23 => ?_) (fun c23 => ?_)
          · have h := h.1 c23
            refine lv_iconst (v := 0) hx hb dX0_isOnPlace_30 (by decide) ?_
            exact rtZ C0 hw rfl h dX0_isOnPlace_31
          · have h := h.2 c23
            refine lv_iconst (v := 1) hx hb dX0_isOnPlace_26 (by decide) ?_
            refine lv_goto (tgt := 31) hx hb dX0_isOnPlace_27 (by decide) ?_
            exact rtZ C0 hw rfl h dX0_isOnPlace_31
abbrev rm_X4_isReference : Room := { frames := 1, cells := 0, slots := 0, locals := 21 }
set_option maxHeartbeats 4000000 in
set_option maxRecDepth 100000 in
theorem m_X4_isReference (l : Launch) (D : va_G) (ad : Nat → Nat) (cI cJ cZ : ClassId) (S : CS) (x1 : Int32) (post : Int32 → CS → Prop) (h : wp_X4_isReference S x1 post) : CI (WC ad cI cJ cZ) D cI cJ cZ l yX4_isReference (.code yX4_isReference cX4_isReference 2 (some .boolean) :: gt) rm_X4_isReference S [.ref (ad 1), .int x1] post := by
  refine enI (by decide) (Nat.le_of_ble_eq_true rfl) ?_
  intro p e s m below meth c A ls C0 hw hl
  have C0 : Cx p s m _ meth c cX4_isReference 2 RX4 (some .boolean) D cI cJ cZ A := C0
  have hl : lv_has ls 2 [(0, .ref (ad 1)), (1, .int x1)] := hl
  have hx := C0.1
  have hb := C0.2.1
  unfold wp_X4_isReference at h
  refine lv_aload_n hx hb dX4_isReference_0 rfl (lv_at hl 0 rfl) ?_
  refine lv_iload_n hx hb dX4_isReference_1 rfl (lv_at hl 1 rfl) ?_
  refine clVI (As := [.int x1]) (rest := []) (ci := 3) (k := 1) C0 (m_X4_has l D ad cI cJ cZ S x1 _ h) cal_X4_has kw_13 kw_12 kw_14 rfl rfl rfl rfl hl.1 rfl (Nat.le_of_ble_eq_true rfl) ⟨Nat.le_of_ble_eq_true rfl, Nat.le_of_ble_eq_true rfl⟩ rfl rfl dX4_isReference_2 hw (fun r2 S2 H locs h hw => ?_)
  replace h := h
  refine lv_if_eq (tgt := 21) hx hb dX4_isReference_5 (by decide) (fun c5 => ?_) (fun c5 => ?_)
  · have h := h.1 c5
    refine lv_iconst (v := 0) hx hb dX4_isReference_21 (by decide) ?_
    exact rtZ C0 hw rfl h dX4_isReference_22
  · have h := h.2 c5
    refine lv_aload_n hx hb dX4_isReference_8 rfl (lv_at hl 0 rfl) ?_
    refine gf_X4_sorts C0 hw dX4_isReference_9 ?_
    refine lv_iload_n hx hb dX4_isReference_12 rfl (lv_at hl 1 rfl) ?_
    refine ld_C_sorts C0 hw h.1 dX4_isReference_13 ?_
    have h := h.2
    refine lv_if_eq (tgt := 21) hx hb dX4_isReference_14 (by decide) (fun c14 => ?_) (fun c14 => ?_)
    · have h := h.1 c14
      refine lv_iconst (v := 0) hx hb dX4_isReference_21 (by decide) ?_
      exact rtZ C0 hw rfl h dX4_isReference_22
    · have h := h.2 c14
      refine lv_iconst (v := 1) hx hb dX4_isReference_17 (by decide) ?_
      refine lv_goto (tgt := 22) hx hb dX4_isReference_18 (by decide) ?_
      exact rtZ C0 hw rfl h dX4_isReference_22
abbrev rm_X4_goesThrough : Room := { frames := 2, cells := 0, slots := 0, locals := 42 }
set_option maxHeartbeats 4000000 in
set_option maxRecDepth 100000 in
theorem m_X4_goesThrough (l : Launch) (D : va_G) (ad : Nat → Nat) (cI cJ cZ : ClassId) (S : CS) (x1 : Int32) (x2 : Int32) (post : Int32 → CS → Prop) (h : wp_X4_goesThrough S x1 x2 post) : CI (WC ad cI cJ cZ) D cI cJ cZ l yX4_goesThrough (.code yX4_goesThrough cX4_goesThrough 3 (some .boolean) :: gt) rm_X4_goesThrough S [.ref (ad 1), .int x1, .int x2] post := by
  refine enI (by decide) (Nat.le_of_ble_eq_true rfl) ?_
  intro p e s m below meth c A ls C0 hw hl
  have C0 : Cx p s m _ meth c cX4_goesThrough 3 RX4 (some .boolean) D cI cJ cZ A := C0
  have hl : lv_has ls 3 [(0, .ref (ad 1)), (1, .int x1), (2, .int x2)] := hl
  have hx := C0.1
  have hb := C0.2.1
  unfold wp_X4_goesThrough at h
  refine lv_aload_n hx hb dX4_goesThrough_0 rfl (lv_at hl 0 rfl) ?_
  refine lv_iload_n hx hb dX4_goesThrough_1 rfl (lv_at hl 1 rfl) ?_
  refine clVI (As := [.int x1]) (rest := []) (ci := 3) (k := 1) C0 (m_X4_isReference l D ad cI cJ cZ S x1 _ h) cal_X4_isReference kw_51 kw_50 kw_49 rfl rfl rfl rfl hl.1 rfl (Nat.le_of_ble_eq_true rfl) ⟨Nat.le_of_ble_eq_true rfl, Nat.le_of_ble_eq_true rfl⟩ rfl rfl dX4_goesThrough_2 hw (fun r2 S2 H locs h hw => ?_)
  replace h := h
  refine lv_if_eq (tgt := 20) hx hb dX4_goesThrough_5 (by decide) (fun c5 => ?_) (fun c5 => ?_)
  · have h := h.1 c5
    refine lv_iconst (v := 0) hx hb dX4_goesThrough_20 (by decide) ?_
    exact rtZ C0 hw rfl h dX4_goesThrough_21
  · have h := h.2 c5
    refine lv_iload_n hx hb dX4_goesThrough_8 rfl (lv_at hl 2 rfl) ?_
    refine clSI (As := [.int x2]) (rest := []) C0 (m_X3_firstDigit l D ad cI cJ cZ S2 x2 _ h) cal_X3_firstDigit kw_19 kw_18 rfl hl.1 rfl (Nat.le_of_ble_eq_true rfl) ⟨Nat.le_of_ble_eq_true rfl, Nat.le_of_ble_eq_true rfl⟩ rfl rfl dX4_goesThrough_9 hw (fun r9 S9 H locs h hw => ?_)
    replace h := h
    refine lv_iconst (v := 5) hx hb dX4_goesThrough_12 (by decide) ?_
    refine lv_icmp_ne (tgt := 20) hx hb dX4_goesThrough_13 (by decide) (fun c13 => ?_) (fun c13 => ?_)
    · have h := h.1 c13
      refine lv_iconst (v := 0) hx hb dX4_goesThrough_20 (by decide) ?_
      exact rtZ C0 hw rfl h dX4_goesThrough_21
    · have h := h.2 c13
      refine lv_iconst (v := 1) hx hb dX4_goesThrough_16 (by decide) ?_
      refine lv_goto (tgt := 21) hx hb dX4_goesThrough_17 (by decide) ?_
      exact rtZ C0 hw rfl h dX4_goesThrough_21
abbrev rm_X0_referenceUsed : Room := { frames := 3, cells := 0, slots := 0, locals := 64 }
set_option maxHeartbeats 4000000 in
set_option maxRecDepth 100000 in
theorem mb_X0_referenceUsed_24 {p : Program} {l : Launch} {e : Env} {s : State} {m : MethodId} {args : Array Value} {below : List Frame} {meth : Method} {c : Code} {D : va_G} {ad : Nat → Nat} {cI cJ cZ : ClassId} {A : Nat → Prop} {post : Int32 → CS → Prop} (C0 : Cx p s m args meth c cX0_referenceUsed 5 RX0 (some .int) D cI cJ cZ A) :
 ∀ (x1 : Int32) (x2 : Int32) (k0 : Int32) (S : CS) (H : Heap) (locs : List Loc) (ls : Array Slot), wp_X0_referenceUsed_24 post x1 x2 k0 S → Wd (WC ad cI cJ cZ) D A s.heap H locs S → lv_has ls 5 [(1, .int x1), (2, .int x2)] → W p l e rm_X0_referenceUsed s m args below meth c H locs 0 0 (QI (WC ad cI cJ cZ) D A s args below post) (F0 m 24 ls [.int k0]) := by
  have hx := C0.1
  have hb := C0.2.1
  intro x1 x2 k0 S H locs ls h hw hl
  unfold wp_X0_referenceUsed_24 at h
  refine lv_istore (lv' := [(4, .int k0), (1, .int x1), (2, .int x2)]) hx hb dX0_referenceUsed_24 hl (by decide) rfl (fun ls hl => ?_)
  refine lv_iload hx hb dX0_referenceUsed_26 (lv_at hl 0 rfl) ?_
  refine lv_if_ne (tgt := 37) hx hb dX0_referenceUsed_28 (by decide) (fun c28 => ?_) (fun c28 => ?_)
  · have h := h.1 c28
    refine lv_iload_n hx hb dX0_referenceUsed_37 rfl (lv_at hl 2 rfl) ?_
    refine lv_goto (tgt := 42) hx hb dX0_referenceUsed_38 (by decide) ?_
    exact rtI C0 hw h dX0_referenceUsed_42
  · have h := h.2 c28
    refine lv_iload_n hx hb dX0_referenceUsed_31 rfl (lv_at hl 1 rfl) ?_
    refine lv_bipush (v := 8) hx hb dX0_referenceUsed_32 (by decide) ?_
    refine lv_icmp_ne (tgt := 41) hx hb dX0_referenceUsed_34 (by decide) (fun c34 => ?_) (fun c34 => ?_)
    · have h := h.1 c34
      refine lv_iconst (v := -1) hx hb dX0_referenceUsed_41 (by decide) ?_
      exact rtI C0 hw h dX0_referenceUsed_42
    · have h := h.2 c34
      refine lv_iload_n hx hb dX0_referenceUsed_37 rfl (lv_at hl 2 rfl) ?_
      refine lv_goto (tgt := 42) hx hb dX0_referenceUsed_38 (by decide) ?_
      exact rtI C0 hw h dX0_referenceUsed_42
set_option maxHeartbeats 4000000 in
set_option maxRecDepth 100000 in
theorem mb_X0_referenceUsed_23 {p : Program} {l : Launch} {e : Env} {s : State} {m : MethodId} {args : Array Value} {below : List Frame} {meth : Method} {c : Code} {D : va_G} {ad : Nat → Nat} {cI cJ cZ : ClassId} {A : Nat → Prop} {post : Int32 → CS → Prop} (C0 : Cx p s m args meth c cX0_referenceUsed 5 RX0 (some .int) D cI cJ cZ A) (K24 : Int32 → Int32 → Int32 → CS → Prop) (hK24 : ∀ (x1 : Int32) (x2 : Int32) (k0 : Int32) (S : CS) (H : Heap) (locs : List Loc) (ls : Array Slot), K24 x1 x2 k0 S → Wd (WC ad cI cJ cZ) D A s.heap H locs S → lv_has ls 5 [(1, .int x1), (2, .int x2)] → W p l e rm_X0_referenceUsed s m args below meth c H locs 0 0 (QI (WC ad cI cJ cZ) D A s args below post) (F0 m 24 ls [.int k0])) :
 ∀ (x1 : Int32) (x2 : Int32) (S : CS) (H : Heap) (locs : List Loc) (ls : Array Slot), wp_X0_referenceUsed_23 K24 post x1 x2 S → Wd (WC ad cI cJ cZ) D A s.heap H locs S → lv_has ls 5 [(1, .int x1), (2, .int x2)] → W p l e rm_X0_referenceUsed s m args below meth c H locs 0 0 (QI (WC ad cI cJ cZ) D A s args below post) (F0 m 23 ls []) := by
  have hx := C0.1
  have hb := C0.2.1
  intro x1 x2 S H locs ls h hw hl
  unfold wp_X0_referenceUsed_23 at h
  refine lv_iconst (v := 0) hx hb dX0_referenceUsed_23 (by decide) ?_
  replace hl := lv_sub hl [0, 1] rfl
  exact hK24 x1 x2 (0 : Int32) S _ _ _ h hw hl
set_option maxHeartbeats 4000000 in
set_option maxRecDepth 100000 in
theorem m_X0_referenceUsed (l : Launch) (D : va_G) (ad : Nat → Nat) (cI cJ cZ : ClassId) (S : CS) (x1 : Int32) (x2 : Int32) (x3 : Int32) (post : Int32 → CS → Prop) (h : wp_X0_referenceUsed S x1 x2 x3 post) : CI (WC ad cI cJ cZ) D cI cJ cZ l yX0_referenceUsed (.code yX0_referenceUsed cX0_referenceUsed 5 (some .int) :: gt) rm_X0_referenceUsed S [.ref (ad 4), .int x1, .int x2, .int x3] post := by
  refine enI (by decide) (Nat.le_of_ble_eq_true rfl) ?_
  intro p e s m below meth c A ls C0 hw hl
  have C0 : Cx p s m _ meth c cX0_referenceUsed 5 RX0 (some .int) D cI cJ cZ A := C0
  have hl : lv_has ls 5 [(0, .ref (ad 4)), (1, .int x1), (2, .int x2), (3, .int x3)] := hl
  have hx := C0.1
  have hb := C0.2.1
  unfold wp_X0_referenceUsed at h
  refine lv_iload_n hx hb dX0_referenceUsed_0 rfl (lv_at hl 1 rfl) ?_
  refine clSI (As := [.int x1]) (rest := []) C0 (m_X0_isOnPlace l D ad cI cJ cZ S x1 _ h) cal_X0_isOnPlace kw_48 kw_47 rfl hl.1 rfl (Nat.le_of_ble_eq_true rfl) ⟨Nat.le_of_ble_eq_true rfl, Nat.le_of_ble_eq_true rfl⟩ rfl rfl dX0_referenceUsed_1 hw (fun r1 S1 H locs h hw => ?_)
  replace h := h
  refine lv_if_eq (tgt := 23) hx hb dX0_referenceUsed_4 (by decide) (fun c4 => ?_) (fun c4 => ?_)
  · have h := h.1 c4
    replace hl := lv_sub hl [1, 2] rfl
    exact mb_X0_referenceUsed_23 C0 _ (fun x1 x2 k0 S H locs ls h hw hl => mb_X0_referenceUsed_24 C0 x1 x2 k0 S _ _ ls h hw hl) x1 x2 S1 _ _ ls h hw hl
  · have h := h.2 c4
    refine lv_aload_n hx hb dX0_referenceUsed_7 rfl (lv_at hl 0 rfl) ?_
    refine gf_X0_variables C0 hw dX0_referenceUsed_8 ?_
    refine lv_iload_n hx hb dX0_referenceUsed_11 rfl (lv_at hl 2 rfl) ?_
    refine lv_iload_n hx hb dX0_referenceUsed_12 rfl (lv_at hl 3 rfl) ?_
    refine clVI (As := [.int x2, .int x3]) (rest := []) (ci := 3) (k := 1) C0 (m_X4_goesThrough l D ad cI cJ cZ S1 x2 x3 _ h) cal_X4_goesThrough kw_54 kw_53 kw_52 rfl rfl rfl rfl hl.1 rfl (Nat.le_of_ble_eq_true rfl) ⟨Nat.le_of_ble_eq_true rfl, Nat.le_of_ble_eq_true rfl⟩ rfl rfl dX0_referenceUsed_13 hw (fun r13 S13 H locs h hw => ?_)
    replace h := h
    refine lv_if_eq (tgt := 23) hx hb dX0_referenceUsed_16 (by decide) (fun c16 => ?_) (fun c16 => ?_)
    · have h := h.1 c16
      replace hl := lv_sub hl [1, 2] rfl
      exact mb_X0_referenceUsed_23 C0 _ (fun x1 x2 k0 S H locs ls h hw hl => mb_X0_referenceUsed_24 C0 x1 x2 k0 S _ _ ls h hw hl) x1 x2 S13 _ _ ls h hw hl
    · have h := h.2 c16
      refine lv_iconst (v := 1) hx hb dX0_referenceUsed_19 (by decide) ?_
      refine lv_goto (tgt := 24) hx hb dX0_referenceUsed_20 (by decide) ?_
      replace hl := lv_sub hl [1, 2] rfl
      exact mb_X0_referenceUsed_24 C0 x1 x2 (1 : Int32) S13 _ _ ls h hw hl
abbrev rm_X0_referenceRenewed : Room := { frames := 2, cells := 0, slots := 0, locals := 42 }
set_option maxHeartbeats 4000000 in
set_option maxRecDepth 100000 in
theorem m_X0_referenceRenewed (l : Launch) (D : va_G) (ad : Nat → Nat) (cI cJ cZ : ClassId) (S : CS) (x1 : Int32) (x2 : Int32) (x3 : Int32) (post : Int32 → CS → Prop) (h : wp_X0_referenceRenewed S x1 x2 x3 post) : CI (WC ad cI cJ cZ) D cI cJ cZ l yX0_referenceRenewed (.code yX0_referenceRenewed cX0_referenceRenewed 4 (some .int) :: gt) rm_X0_referenceRenewed S [.ref (ad 4), .int x1, .int x2, .int x3] post := by
  refine enI (by decide) (Nat.le_of_ble_eq_true rfl) ?_
  intro p e s m below meth c A ls C0 hw hl
  have C0 : Cx p s m _ meth c cX0_referenceRenewed 4 RX0 (some .int) D cI cJ cZ A := C0
  have hl : lv_has ls 4 [(0, .ref (ad 4)), (1, .int x1), (2, .int x2), (3, .int x3)] := hl
  have hx := C0.1
  have hb := C0.2.1
  unfold wp_X0_referenceRenewed at h
  refine lv_iload_n hx hb dX0_referenceRenewed_0 rfl (lv_at hl 1 rfl) ?_
  refine lv_iconst (v := 5) hx hb dX0_referenceRenewed_1 (by decide) ?_
  refine lv_icmp_ne (tgt := 22) hx hb dX0_referenceRenewed_2 (by decide) (fun c2 => ?_) (fun c2 => ?_)
  · have h := h.1 c2
    refine lv_iload_n hx hb dX0_referenceRenewed_22 rfl (lv_at hl 1 rfl) ?_
    refine lv_bipush (v := 7) hx hb dX0_referenceRenewed_23 (by decide) ?_
    refine lv_icmp_eq (tgt := 34) hx hb dX0_referenceRenewed_25 (by decide) (fun c25 => ?_) (fun c25 => ?_)
    · have h := h.1 c25
      refine lv_iload_n hx hb dX0_referenceRenewed_34 rfl (lv_at hl 3 rfl) ?_
      refine lv_goto (tgt := 39) hx hb dX0_referenceRenewed_35 (by decide) ?_
      exact rtI C0 hw h dX0_referenceRenewed_39
    · have h := h.2 c25
      refine lv_iload_n hx hb dX0_referenceRenewed_28 rfl (lv_at hl 1 rfl) ?_
      refine lv_bipush (v := 8) hx hb dX0_referenceRenewed_29 (by decide) ?_
      refine lv_icmp_ne (tgt := 38) hx hb dX0_referenceRenewed_31 (by decide) (fun c31 => ?_) (fun c31 => ?_)
      · have h := h.1 c31
        refine lv_iconst (v := -1) hx hb dX0_referenceRenewed_38 (by decide) ?_
        exact rtI C0 hw h dX0_referenceRenewed_39
      · have h := h.2 c31
        refine lv_iload_n hx hb dX0_referenceRenewed_34 rfl (lv_at hl 3 rfl) ?_
        refine lv_goto (tgt := 39) hx hb dX0_referenceRenewed_35 (by decide) ?_
        exact rtI C0 hw h dX0_referenceRenewed_39
  · have h := h.2 c2
    refine lv_aload_n hx hb dX0_referenceRenewed_5 rfl (lv_at hl 0 rfl) ?_
    refine gf_X0_variables C0 hw dX0_referenceRenewed_6 ?_
    refine lv_iload_n hx hb dX0_referenceRenewed_9 rfl (lv_at hl 2 rfl) ?_
    refine clVI (As := [.int x2]) (rest := []) (ci := 3) (k := 1) C0 (m_X4_isReference l D ad cI cJ cZ S x2 _ h) cal_X4_isReference kw_51 kw_50 kw_58 rfl rfl rfl rfl hl.1 rfl (Nat.le_of_ble_eq_true rfl) ⟨Nat.le_of_ble_eq_true rfl, Nat.le_of_ble_eq_true rfl⟩ rfl rfl dX0_referenceRenewed_10 hw (fun r10 S10 H locs h hw => ?_)
    replace h := h
    refine lv_if_eq (tgt := 20) hx hb dX0_referenceRenewed_13 (by decide) (fun c13 => ?_) (fun c13 => ?_)
    · have h := h.1 c13
      refine lv_iconst (v := -1) hx hb dX0_referenceRenewed_20 (by decide) ?_
      exact rtI C0 hw h dX0_referenceRenewed_21
    · have h := h.2 c13
      refine lv_iload_n hx hb dX0_referenceRenewed_16 rfl (lv_at hl 2 rfl) ?_
      refine lv_goto (tgt := 21) hx hb dX0_referenceRenewed_17 (by decide) ?_
      exact rtI C0 hw h dX0_referenceRenewed_21
abbrev rm_X0_lendsBeside : Room := { frames := 1, cells := 0, slots := 0, locals := 20 }
set_option maxHeartbeats 4000000 in
set_option maxRecDepth 100000 in
theorem m_X0_lendsBeside (l : Launch) (D : va_G) (ad : Nat → Nat) (cI cJ cZ : ClassId) (S : CS) (x1 : Int32) (post : Int32 → CS → Prop) (h : wp_X0_lendsBeside S x1 post) : CI (WC ad cI cJ cZ) D cI cJ cZ l yX0_lendsBeside (.code yX0_lendsBeside cX0_lendsBeside 2 (some .int) :: gt) rm_X0_lendsBeside S [.ref (ad 4), .int x1] post := by
  refine enI (by decide) (Nat.le_of_ble_eq_true rfl) ?_
  intro p e s m below meth c A ls C0 hw hl
  have C0 : Cx p s m _ meth c cX0_lendsBeside 2 RX0 (some .int) D cI cJ cZ A := C0
  have hl : lv_has ls 2 [(0, .ref (ad 4)), (1, .int x1)] := hl
  have hx := C0.1
  have hb := C0.2.1
  unfold wp_X0_lendsBeside at h
  refine lv_aload_n hx hb dX0_lendsBeside_0 rfl (lv_at hl 0 rfl) ?_
  refine gf_X0_lends C0 hw dX0_lendsBeside_1 ?_
  refine lv_aload_n hx hb dX0_lendsBeside_4 rfl (lv_at hl 0 rfl) ?_
  refine gf_X0_kinds C0 hw dX0_lendsBeside_5 ?_
  refine lv_iload_n hx hb dX0_lendsBeside_8 rfl (lv_at hl 1 rfl) ?_
  refine ld_C_kinds C0 hw h.1 dX0_lendsBeside_9 ?_
  have h := h.2
  refine lv_bipush (v := 7) hx hb dX0_lendsBeside_10 (by decide) ?_
  refine lv_icmp_ne (tgt := 19) hx hb dX0_lendsBeside_12 (by decide) (fun c12 => ?_) (fun c12 => ?_)
  · have h := h.1 c12
    refine lv_iconst (v := 0) hx hb dX0_lendsBeside_19 (by decide) ?_
    refine clNI (As := [.int (0 : Int32)]) (rest := [.int (gC_lends S)]) C0 (m_X6_answer l D ad cI cJ cZ S (0 : Int32) _ h) cal_X6_answer kw_28 C0.2.2.2.2.2.2.2.1.2.2.1 rfl hl.1 rfl (Nat.le_of_ble_eq_true rfl) ⟨Nat.le_of_ble_eq_true rfl, Nat.le_of_ble_eq_true rfl⟩ rfl rfl dX0_lendsBeside_20 hw (fun r20 S20 H locs h hw => ?_)
    replace h := h
    refine lv_isub hx hb dX0_lendsBeside_23 ?_
    exact rtI C0 hw h dX0_lendsBeside_24
  · have h := h.2 c12
    refine lv_iconst (v := 1) hx hb dX0_lendsBeside_15 (by decide) ?_
    refine lv_goto (tgt := 20) hx hb dX0_lendsBeside_16 (by decide) ?_
    refine clNI (As := [.int (1 : Int32)]) (rest := [.int (gC_lends S)]) C0 (m_X6_answer l D ad cI cJ cZ S (1 : Int32) _ h) cal_X6_answer kw_28 C0.2.2.2.2.2.2.2.1.2.2.1 rfl hl.1 rfl (Nat.le_of_ble_eq_true rfl) ⟨Nat.le_of_ble_eq_true rfl, Nat.le_of_ble_eq_true rfl⟩ rfl rfl dX0_lendsBeside_20 hw (fun r20 S20 H locs h hw => ?_)
    replace h := h
    refine lv_isub hx hb dX0_lendsBeside_23 ?_
    exact rtI C0 hw h dX0_lendsBeside_24
abbrev rm_X0_put : Room := { frames := 4, cells := 0, slots := 0, locals := 91 }
set_option maxHeartbeats 4000000 in
set_option maxRecDepth 100000 in
theorem mb_X0_put_17 {p : Program} {l : Launch} {e : Env} {s : State} {m : MethodId} {args : Array Value} {below : List Frame} {meth : Method} {c : Code} {D : va_G} {ad : Nat → Nat} {cI cJ cZ : ClassId} {A : Nat → Prop} {post : CS → Prop} (C0 : Cx p s m args meth c cX0_put 6 RX0 none D cI cJ cZ A) :
 ∀ (x1 : Int32) (x2 : Int32) (x3 : Int32) (x4 : Int32) (x5 : Int32) (k0 : Int32) (k1 : Int32) (S : CS) (H : Heap) (locs : List Loc) (ls : Array Slot), wp_X0_put_17 post x1 x2 x3 x4 x5 k0 k1 S → Wd (WC ad cI cJ cZ) D A s.heap H locs S → lv_has ls 6 [(0, .ref (ad 4)), (1, .int x1), (2, .int x2), (3, .int x3), (4, .int x4), (5, .int x5)] → W p l e rm_X0_put s m args below meth c H locs 0 0 (QV (WC ad cI cJ cZ) D A s args below post) (F0 m 17 ls [.int k0, .int k1, .ref (ad 4)]) := by
  have hx := C0.1
  have hb := C0.2.1
  intro x1 x2 x3 x4 x5 k0 k1 S H locs ls h hw hl
  unfold wp_X0_put_17 at h
  refine clNI (As := [.int k0]) (rest := [.int k1, .ref (ad 4)]) C0 (m_X6_answer l D ad cI cJ cZ S k0 _ h) cal_X6_answer kw_28 C0.2.2.2.2.2.2.2.1.2.2.1 rfl hl.1 rfl (Nat.le_of_ble_eq_true rfl) ⟨Nat.le_of_ble_eq_true rfl, Nat.le_of_ble_eq_true rfl⟩ rfl rfl dX0_put_17 hw (fun r17 S17 H locs h hw => ?_)
  replace h := h
  refine lv_iadd hx hb dX0_put_20 ?_
  refine pf_X0_lends C0 hw dX0_put_21 (fun H locs hw => ?_)
  obtain ⟨S_1, eS_1⟩ : ∃ z, z = sC_lends S17 (k1 + r17) := ⟨_, rfl⟩
  rw [← eS_1] at hw
  have h := h S_1 eS_1
  refine lv_aload_n hx hb dX0_put_24 rfl (lv_at hl 0 rfl) ?_
  refine gf_X0_kinds C0 hw dX0_put_25 ?_
  refine lv_iload_n hx hb dX0_put_28 rfl (lv_at hl 1 rfl) ?_
  refine lv_iload_n hx hb dX0_put_29 rfl (lv_at hl 2 rfl) ?_
  refine st_C_kinds C0 hw h.1 dX0_put_30 (fun H locs hw => ?_)
  have h := h.2
  obtain ⟨S_2, eS_2⟩ : ∃ z, z = sC_kinds S_1 (upd (gC_kinds S_1) (x1).toNatClampNeg x2) := ⟨_, rfl⟩
  rw [← eS_2] at hw
  have h := h S_2 eS_2
  refine lv_aload_n hx hb dX0_put_31 rfl (lv_at hl 0 rfl) ?_
  refine gf_X0_places C0 hw dX0_put_32 ?_
  refine lv_iload_n hx hb dX0_put_35 rfl (lv_at hl 1 rfl) ?_
  refine lv_iload_n hx hb dX0_put_36 rfl (lv_at hl 3 rfl) ?_
  refine st_C_places C0 hw h.1 dX0_put_37 (fun H locs hw => ?_)
  have h := h.2
  obtain ⟨S_3, eS_3⟩ : ∃ z, z = sC_places S_2 (upd (gC_places S_2) (x1).toNatClampNeg x3) := ⟨_, rfl⟩
  rw [← eS_3] at hw
  have h := h S_3 eS_3
  refine lv_aload_n hx hb dX0_put_38 rfl (lv_at hl 0 rfl) ?_
  refine gf_X0_paths C0 hw dX0_put_39 ?_
  refine lv_iload_n hx hb dX0_put_42 rfl (lv_at hl 1 rfl) ?_
  refine lv_iload hx hb dX0_put_43 (lv_at hl 4 rfl) ?_
  refine st_C_paths C0 hw h.1 dX0_put_45 (fun H locs hw => ?_)
  have h := h.2
  obtain ⟨S_4, eS_4⟩ : ∃ z, z = sC_paths S_3 (upd (gC_paths S_3) (x1).toNatClampNeg x4) := ⟨_, rfl⟩
  rw [← eS_4] at hw
  have h := h S_4 eS_4
  refine lv_aload_n hx hb dX0_put_46 rfl (lv_at hl 0 rfl) ?_
  refine gf_X0_receivers C0 hw dX0_put_47 ?_
  refine lv_iload_n hx hb dX0_put_50 rfl (lv_at hl 1 rfl) ?_
  refine lv_iload hx hb dX0_put_51 (lv_at hl 5 rfl) ?_
  refine st_C_recvs C0 hw h.1 dX0_put_53 (fun H locs hw => ?_)
  have h := h.2
  obtain ⟨S_5, eS_5⟩ : ∃ z, z = sC_recvs S_4 (upd (gC_recvs S_4) (x1).toNatClampNeg x5) := ⟨_, rfl⟩
  rw [← eS_5] at hw
  have h := h S_5 eS_5
  refine lv_aload_n hx hb dX0_put_54 rfl (lv_at hl 0 rfl) ?_
  refine gf_X0_wanted C0 hw dX0_put_55 ?_
  refine lv_iload_n hx hb dX0_put_58 rfl (lv_at hl 1 rfl) ?_
  refine lv_aload_n hx hb dX0_put_59 rfl (lv_at hl 0 rfl) ?_
  refine lv_iload_n hx hb dX0_put_60 rfl (lv_at hl 2 rfl) ?_
  refine lv_iload_n hx hb dX0_put_61 rfl (lv_at hl 3 rfl) ?_
  refine lv_iload hx hb dX0_put_62 (lv_at hl 4 rfl) ?_
  refine clVL (As := [.int x2, .int x3, .int x4]) (rest := [.int x1, .ref (ad 9)]) (ci := 0) (k := 4) C0 (m_X0_leavesWanted l D ad cI cJ cZ S_5 x2 x3 x4 _ h) cal_X0_leavesWanted kw_37 kw_36 kw_35 rfl rfl rfl rfl hl.1 rfl (Nat.le_of_ble_eq_true rfl) ⟨Nat.le_of_ble_eq_true rfl, Nat.le_of_ble_eq_true rfl⟩ rfl rfl dX0_put_64 hw (fun r64 S64 H locs h hw => ?_)
  replace h := h
  refine st_C_wanted C0 hw h.1 dX0_put_67 (fun H locs hw => ?_)
  have h := h.2
  obtain ⟨S_6, eS_6⟩ : ∃ z, z = sC_wanted S64 (vp_updL (gC_wanted S64) (x1).toNatClampNeg r64) := ⟨_, rfl⟩
  rw [← eS_6] at hw
  have h := h S_6 eS_6
  refine lv_aload_n hx hb dX0_put_68 rfl (lv_at hl 0 rfl) ?_
  refine gf_X0_given C0 hw dX0_put_69 ?_
  refine lv_iload_n hx hb dX0_put_72 rfl (lv_at hl 1 rfl) ?_
  refine lv_aload_n hx hb dX0_put_73 rfl (lv_at hl 0 rfl) ?_
  refine lv_iload_n hx hb dX0_put_74 rfl (lv_at hl 2 rfl) ?_
  refine lv_iload_n hx hb dX0_put_75 rfl (lv_at hl 3 rfl) ?_
  refine lv_iload hx hb dX0_put_76 (lv_at hl 4 rfl) ?_
  refine lv_iload hx hb dX0_put_78 (lv_at hl 5 rfl) ?_
  refine clVL (As := [.int x2, .int x3, .int x4, .int x5]) (rest := [.int x1, .ref (ad 10)]) (ci := 0) (k := 4) C0 (m_X0_leavesGiven l D ad cI cJ cZ S_6 x2 x3 x4 x5 _ h) cal_X0_leavesGiven kw_40 kw_39 kw_38 rfl rfl rfl rfl hl.1 rfl (Nat.le_of_ble_eq_true rfl) ⟨Nat.le_of_ble_eq_true rfl, Nat.le_of_ble_eq_true rfl⟩ rfl rfl dX0_put_80 hw (fun r80 S80 H locs h hw => ?_)
  replace h := h
  refine st_C_given C0 hw h.1 dX0_put_83 (fun H locs hw => ?_)
  have h := h.2
  obtain ⟨S_7, eS_7⟩ : ∃ z, z = sC_given S80 (vp_updL (gC_given S80) (x1).toNatClampNeg r80) := ⟨_, rfl⟩
  rw [← eS_7] at hw
  have h := h S_7 eS_7
  refine lv_aload_n hx hb dX0_put_84 rfl (lv_at hl 0 rfl) ?_
  refine gf_X0_taken C0 hw dX0_put_85 ?_
  refine lv_iload_n hx hb dX0_put_88 rfl (lv_at hl 1 rfl) ?_
  refine lv_aload_n hx hb dX0_put_89 rfl (lv_at hl 0 rfl) ?_
  refine lv_iload_n hx hb dX0_put_90 rfl (lv_at hl 2 rfl) ?_
  refine lv_iload_n hx hb dX0_put_91 rfl (lv_at hl 3 rfl) ?_
  refine lv_iload hx hb dX0_put_92 (lv_at hl 4 rfl) ?_
  refine clVL (As := [.int x2, .int x3, .int x4]) (rest := [.int x1, .ref (ad 11)]) (ci := 0) (k := 4) C0 (m_X0_leavesTaken l D ad cI cJ cZ S_7 x2 x3 x4 _ h) cal_X0_leavesTaken kw_46 kw_45 kw_44 rfl rfl rfl rfl hl.1 rfl (Nat.le_of_ble_eq_true rfl) ⟨Nat.le_of_ble_eq_true rfl, Nat.le_of_ble_eq_true rfl⟩ rfl rfl dX0_put_94 hw (fun r94 S94 H locs h hw => ?_)
  replace h := h
  refine st_C_taken C0 hw h.1 dX0_put_97 (fun H locs hw => ?_)
  have h := h.2
  obtain ⟨S_8, eS_8⟩ : ∃ z, z = sC_taken S94 (vp_updL (gC_taken S94) (x1).toNatClampNeg r94) := ⟨_, rfl⟩
  rw [← eS_8] at hw
  have h := h S_8 eS_8
  refine lv_aload_n hx hb dX0_put_98 rfl (lv_at hl 0 rfl) ?_
  refine gf_X0_usedReferences C0 hw dX0_put_99 ?_
  refine lv_iload_n hx hb dX0_put_102 rfl (lv_at hl 1 rfl) ?_
  refine lv_aload_n hx hb dX0_put_103 rfl (lv_at hl 0 rfl) ?_
  refine lv_iload_n hx hb dX0_put_104 rfl (lv_at hl 2 rfl) ?_
  refine lv_iload_n hx hb dX0_put_105 rfl (lv_at hl 3 rfl) ?_
  refine lv_iload hx hb dX0_put_106 (lv_at hl 4 rfl) ?_
  refine clVI (As := [.int x2, .int x3, .int x4]) (rest := [.int x1, .ref (ad 12)]) (ci := 0) (k := 4) C0 (m_X0_referenceUsed l D ad cI cJ cZ S_8 x2 x3 x4 _ h) cal_X0_referenceUsed kw_57 kw_56 kw_55 rfl rfl rfl rfl hl.1 rfl (Nat.le_of_ble_eq_true rfl) ⟨Nat.le_of_ble_eq_true rfl, Nat.le_of_ble_eq_true rfl⟩ rfl rfl dX0_put_108 hw (fun r108 S108 H locs h hw => ?_)
  replace h := h
  refine st_C_usedR C0 hw h.1 dX0_put_111 (fun H locs hw => ?_)
  have h := h.2
  obtain ⟨S_9, eS_9⟩ : ∃ z, z = sC_usedR S108 (upd (gC_usedR S108) (x1).toNatClampNeg r108) := ⟨_, rfl⟩
  rw [← eS_9] at hw
  have h := h S_9 eS_9
  refine lv_aload_n hx hb dX0_put_112 rfl (lv_at hl 0 rfl) ?_
  refine gf_X0_renewedReferences C0 hw dX0_put_113 ?_
  refine lv_iload_n hx hb dX0_put_116 rfl (lv_at hl 1 rfl) ?_
  refine lv_aload_n hx hb dX0_put_117 rfl (lv_at hl 0 rfl) ?_
  refine lv_iload_n hx hb dX0_put_118 rfl (lv_at hl 2 rfl) ?_
  refine lv_iload_n hx hb dX0_put_119 rfl (lv_at hl 3 rfl) ?_
  refine lv_iload hx hb dX0_put_120 (lv_at hl 5 rfl) ?_
  refine clVI (As := [.int x2, .int x3, .int x5]) (rest := [.int x1, .ref (ad 13)]) (ci := 0) (k := 4) C0 (m_X0_referenceRenewed l D ad cI cJ cZ S_9 x2 x3 x5 _ h) cal_X0_referenceRenewed kw_61 kw_60 kw_59 rfl rfl rfl rfl hl.1 rfl (Nat.le_of_ble_eq_true rfl) ⟨Nat.le_of_ble_eq_true rfl, Nat.le_of_ble_eq_true rfl⟩ rfl rfl dX0_put_122 hw (fun r122 S122 H locs h hw => ?_)
  replace h := h
  refine st_C_renR C0 hw h.1 dX0_put_125 (fun H locs hw => ?_)
  have h := h.2
  obtain ⟨S_10, eS_10⟩ : ∃ z, z = sC_renR S122 (upd (gC_renR S122) (x1).toNatClampNeg r122) := ⟨_, rfl⟩
  rw [← eS_10] at hw
  have h := h S_10 eS_10
  exact rtV C0 hw h dX0_put_126
set_option maxHeartbeats 4000000 in
set_option maxRecDepth 100000 in
theorem m_X0_put (l : Launch) (D : va_G) (ad : Nat → Nat) (cI cJ cZ : ClassId) (S : CS) (x1 : Int32) (x2 : Int32) (x3 : Int32) (x4 : Int32) (x5 : Int32) (post : CS → Prop) (h : wp_X0_put S x1 x2 x3 x4 x5 post) : CV (WC ad cI cJ cZ) D cI cJ cZ l yX0_put (.code yX0_put cX0_put 6 none :: gt) rm_X0_put S [.ref (ad 4), .int x1, .int x2, .int x3, .int x4, .int x5] post := by
  refine enV (by decide) (Nat.le_of_ble_eq_true rfl) ?_
  intro p e s m below meth c A ls C0 hw hl
  have C0 : Cx p s m _ meth c cX0_put 6 RX0 none D cI cJ cZ A := C0
  have hl : lv_has ls 6 [(0, .ref (ad 4)), (1, .int x1), (2, .int x2), (3, .int x3), (4, .int x4), (5, .int x5)] := hl
  have hx := C0.1
  have hb := C0.2.1
  unfold wp_X0_put at h
  refine lv_aload_n hx hb dX0_put_0 rfl (lv_at hl 0 rfl) ?_
  refine lv_aload_n hx hb dX0_put_1 rfl (lv_at hl 0 rfl) ?_
  refine lv_iload_n hx hb dX0_put_2 rfl (lv_at hl 1 rfl) ?_
  refine clVI (As := [.int x1]) (rest := [.ref (ad 4)]) (ci := 0) (k := 4) C0 (m_X0_lendsBeside l D ad cI cJ cZ S x1 _ h) cal_X0_lendsBeside kw_64 kw_63 kw_62 rfl rfl rfl rfl hl.1 rfl (Nat.le_of_ble_eq_true rfl) ⟨Nat.le_of_ble_eq_true rfl, Nat.le_of_ble_eq_true rfl⟩ rfl rfl dX0_put_3 hw (fun r3 S3 H locs h hw => ?_)
  replace h := h
  refine lv_iload_n hx hb dX0_put_6 rfl (lv_at hl 2 rfl) ?_
  refine lv_bipush (v := 7) hx hb dX0_put_7 (by decide) ?_
  refine lv_icmp_ne (tgt := 16) hx hb dX0_put_9 (by decide) (fun c9 => ?_) (fun c9 => ?_)
  · have h := h.1 c9
    refine lv_iconst (v := 0) hx hb dX0_put_16 (by decide) ?_
    replace hl := lv_sub hl [0, 1, 2, 3, 4, 5] rfl
    exact mb_X0_put_17 C0 x1 x2 x3 x4 x5 (0 : Int32) r3 S3 _ _ ls h hw hl
  · have h := h.2 c9
    refine lv_iconst (v := 1) hx hb dX0_put_12 (by decide) ?_
    refine lv_goto (tgt := 17) hx hb dX0_put_13 (by decide) ?_
    replace hl := lv_sub hl [0, 1, 2, 3, 4, 5] rfl
    exact mb_X0_put_17 C0 x1 x2 x3 x4 x5 (1 : Int32) r3 S3 _ _ ls h hw hl
abbrev rm_X6_isPoint : Room := { frames := 0, cells := 0, slots := 0, locals := 0 }
set_option maxHeartbeats 4000000 in
set_option maxRecDepth 100000 in
theorem m_X6_isPoint (l : Launch) (D : va_G) (ad : Nat → Nat) (cI cJ cZ : ClassId) (S : CS) (x0 : Int32) (post : Int32 → CS → Prop) (h : wp_X6_isPoint S x0 post) : CI (WC ad cI cJ cZ) D cI cJ cZ l yX6_isPoint (.code yX6_isPoint cX6_isPoint 1 (some .boolean) :: gt) rm_X6_isPoint S [.int x0] post := by
  refine enI (by decide) (Nat.le_of_ble_eq_true rfl) ?_
  intro p e s m below meth c A ls C0 hw hl
  have C0 : Cx p s m _ meth c cX6_isPoint 1 RX6 (some .boolean) D cI cJ cZ A := C0
  have hl : lv_has ls 1 [(0, .int x0)] := hl
  have hx := C0.1
  have hb := C0.2.1
  unfold wp_X6_isPoint at h
  refine lv_iload_n hx hb dX6_isPoint_0 rfl (lv_at hl 0 rfl) ?_
  refine lv_if_lt (tgt := 15) hx hb dX6_isPoint_1 (by decide) (fun c1 => ?_) (fun c1 => ?_)
  · have h := h.1 c1
    refine lv_iconst (v := 0) hx hb dX6_isPoint_15 (by decide) ?_
    exact rtZ C0 hw rfl h dX6_isPoint_16
  · have h := h.2 c1
    refine lv_iload_n hx hb dX6_isPoint_4 rfl (lv_at hl 0 rfl) ?_
    refine lv_sipush (v := 150) hx hb dX6_isPoint_5 (by decide) ?_
    refine lv_icmp_ge (tgt := 15) hx hb dX6_isPoint_8 (by decide) (fun c8 => ?_) (fun c8 => ?_)
    · have h := h.1 c8
      refine lv_iconst (v := 0) hx hb dX6_isPoint_15 (by decide) ?_
      exact rtZ C0 hw rfl h dX6_isPoint_16
    · have h := h.2 c8
      refine lv_iconst (v := 1) hx hb dX6_isPoint_11 (by decide) ?_
      refine lv_goto (tgt := 16) hx hb dX6_isPoint_12 (by decide) ?_
      exact rtZ C0 hw rfl h dX6_isPoint_16
abbrev rm_X3_isPath : Room := { frames := 1, cells := 0, slots := 0, locals := 20 }
set_option maxHeartbeats 4000000 in
set_option maxRecDepth 100000 in
theorem mb_X3_isPath_17 {p : Program} {l : Launch} {e : Env} {s : State} {m : MethodId} {args : Array Value} {below : List Frame} {meth : Method} {c : Code} {D : va_G} {ad : Nat → Nat} {cI cJ cZ : ClassId} {A : Nat → Prop} {post : Int32 → CS → Prop} (C0 : Cx p s m args meth c cX3_isPath 4 RX3 (some .boolean) D cI cJ cZ A) :
 ∀ (n : Nat) (x1 : Int32) (x2 : Int32) (S : CS) (H : Heap) (locs : List Loc) (ls : Array Slot), wp_X3_isPath_17 post n x1 x2 S → Wd (WC ad cI cJ cZ) D A s.heap H locs S → lv_has ls 4 [(1, .int x1), (2, .int x2)] → W p l e rm_X3_isPath s m args below meth c H locs 0 0 (QI (WC ad cI cJ cZ) D A s args below post) (F0 m 17 ls []) := by
  have hx := C0.1
  have hb := C0.2.1
  intro n
  induction n with
  | zero => intro x1 x2 S H locs ls h; exact h.elim
  | succ n ih =>
    intro x1 x2 S H locs ls h hw hl
    replace h : ws_X3_isPath_17 (wp_X3_isPath_17  post n)  post x1 x2 S := h
    unfold ws_X3_isPath_17 at h
    refine lv_iload_n hx hb dX3_isPath_17 rfl (lv_at hl 1 rfl) ?_
    refine lv_iconst (v := 4) hx hb dX3_isPath_18 (by decide) ?_
    refine lv_icmp_ge (tgt := 54) hx hb dX3_isPath_19 (by decide) (fun c19 => ?_) (fun c19 => ?_)
    · have h := h.1 c19
      refine lv_iconst (v := 1) hx hb dX3_isPath_54 (by decide) ?_
      exact rtZ C0 hw rfl h dX3_isPath_55
    · have h := h.2 c19
      refine lv_iload_n hx hb dX3_isPath_22 rfl (lv_at hl 0 rfl) ?_
      refine lv_if_eq (tgt := 54) hx hb dX3_isPath_23 (by decide) (fun c23 => ?_) (fun c23 => ?_)
      · have h := h.1 c23
        refine lv_iconst (v := 1) hx hb dX3_isPath_54 (by decide) ?_
        exact rtZ C0 hw rfl h dX3_isPath_55
      · have h := h.2 c23
        refine lv_iload_n hx hb dX3_isPath_26 rfl (lv_at hl 0 rfl) ?_
        refine clSI (As := [.int x1]) (rest := []) C0 (m_X3_firstDigit l D ad cI cJ cZ S x1 _ h) cal_X3_firstDigit kw_19 kw_73 rfl hl.1 rfl (Nat.le_of_ble_eq_true rfl) ⟨Nat.le_of_ble_eq_true rfl, Nat.le_of_ble_eq_true rfl⟩ rfl rfl dX3_isPath_27 hw (fun r27 S27 H locs h hw => ?_)
        replace h := h
        refine lv_istore_n (lv' := [(3, .int r27), (1, .int x1), (2, .int x2)]) hx hb dX3_isPath_30 rfl hl (by decide) rfl (fun ls hl => ?_)
        refine lv_iload_n hx hb dX3_isPath_31 rfl (lv_at hl 0 rfl) ?_
        refine lv_if_eq (tgt := 41) hx hb dX3_isPath_32 (by decide) (fun c32 => ?_) (fun c32 => ?_)
        · have h := h.1 c32
          refine lv_iconst (v := 0) hx hb dX3_isPath_41 (by decide) ?_
          exact rtZ C0 hw rfl h dX3_isPath_42
        · have h := h.2 c32
          refine lv_iload_n hx hb dX3_isPath_35 rfl (lv_at hl 0 rfl) ?_
          refine lv_bipush (v := 6) hx hb dX3_isPath_36 (by decide) ?_
          refine lv_icmp_le (tgt := 43) hx hb dX3_isPath_38 (by decide) (fun c38 => ?_) (fun c38 => ?_)
          · have h := h.1 c38
            refine lv_iload_n hx hb dX3_isPath_43 rfl (lv_at hl 1 rfl) ?_
            refine clSI (As := [.int x1]) (rest := []) C0 (m_X3_behindFirst l D ad cI cJ cZ S27 x1 _ h) cal_X3_behindFirst kw_31 kw_74 rfl hl.1 rfl (Nat.le_of_ble_eq_true rfl) ⟨Nat.le_of_ble_eq_true rfl, Nat.le_of_ble_eq_true rfl⟩ rfl rfl dX3_isPath_44 hw (fun r44 S44 H locs h hw => ?_)
            replace h := h
            refine lv_istore_n (lv' := [(1, .int r44), (3, .int r27), (2, .int x2)]) hx hb dX3_isPath_47 rfl hl (by decide) rfl (fun ls hl => ?_)
            obtain ⟨x2_1, ex2_1⟩ : ∃ y : Int32, y = x2 + (1 : Int32) := ⟨_, rfl⟩
            refine lv_iinc (v := x2_1) (lv' := [(2, .int x2_1), (1, .int r44), (3, .int r27)]) hx hb dX3_isPath_48 hl (k := 2) rfl (by rw [ex2_1]; rfl) (by decide) rfl (fun ls hl => ?_)
            have h := h x2_1 ex2_1
            refine lv_goto (tgt := 17) hx hb dX3_isPath_51 (by decide) ?_
            replace hl := lv_sub hl [1, 0] rfl
            exact ih r44 x2_1 S44 _ _ _ h hw hl
          · have h := h.2 c38
            refine lv_iconst (v := 0) hx hb dX3_isPath_41 (by decide) ?_
            exact rtZ C0 hw rfl h dX3_isPath_42
set_option maxHeartbeats 4000000 in
set_option maxRecDepth 100000 in
theorem m_X3_isPath (l : Launch) (D : va_G) (ad : Nat → Nat) (cI cJ cZ : ClassId) (S : CS) (x0 : Int32) (post : Int32 → CS → Prop) (h : wp_X3_isPath S x0 post) : CI (WC ad cI cJ cZ) D cI cJ cZ l yX3_isPath (.code yX3_isPath cX3_isPath 4 (some .boolean) :: gt) rm_X3_isPath S [.int x0] post := by
  refine enI (by decide) (Nat.le_of_ble_eq_true rfl) ?_
  intro p e s m below meth c A ls C0 hw hl
  have C0 : Cx p s m _ meth c cX3_isPath 4 RX3 (some .boolean) D cI cJ cZ A := C0
  have hl : lv_has ls 4 [(0, .int x0)] := hl
  have hx := C0.1
  have hb := C0.2.1
  unfold wp_X3_isPath at h
  refine lv_iload_n hx hb dX3_isPath_0 rfl (lv_at hl 0 rfl) ?_
  refine lv_if_lt (tgt := 11) hx hb dX3_isPath_1 (by decide) (fun c1 => ?_) (fun c1 => ?_)
  · have h := h.1 c1
    refine lv_iconst (v := 0) hx hb dX3_isPath_11 (by decide) ?_
    exact rtZ C0 hw rfl h dX3_isPath_12
  · have h := h.2 c1
    refine lv_iload_n hx hb dX3_isPath_4 rfl (lv_at hl 0 rfl) ?_
    refine lv_sipush (v := 4096) hx hb dX3_isPath_5 (by decide) ?_
    refine lv_icmp_lt (tgt := 13) hx hb dX3_isPath_8 (by decide) (fun c8 => ?_) (fun c8 => ?_)
    · have h := h.1 c8
      refine lv_iload_n hx hb dX3_isPath_13 rfl (lv_at hl 0 rfl) ?_
      refine lv_istore_n (lv' := [(1, .int x0), (0, .int x0)]) hx hb dX3_isPath_14 rfl hl (by decide) rfl (fun ls hl => ?_)
      refine lv_iconst (v := 0) hx hb dX3_isPath_15 (by decide) ?_
      refine lv_istore_n (lv' := [(2, .int (0 : Int32)), (1, .int x0), (0, .int x0)]) hx hb dX3_isPath_16 rfl hl (by decide) rfl (fun ls hl => ?_)
      replace hl := lv_sub hl [1, 0] rfl
      obtain ⟨n, h⟩ := h
      exact mb_X3_isPath_17 C0 n x0 (0 : Int32) S _ _ ls h hw hl
    · have h := h.2 c8
      refine lv_iconst (v := 0) hx hb dX3_isPath_11 (by decide) ?_
      exact rtZ C0 hw rfl h dX3_isPath_12
abbrev rm_X4_isPlace : Room := { frames := 2, cells := 0, slots := 0, locals := 43 }
set_option maxHeartbeats 4000000 in
set_option maxRecDepth 100000 in
theorem m_X4_isPlace (l : Launch) (D : va_G) (ad : Nat → Nat) (cI cJ cZ : ClassId) (S : CS) (x1 : Int32) (x2 : Int32) (post : Int32 → CS → Prop) (h : wp_X4_isPlace S x1 x2 post) : CI (WC ad cI cJ cZ) D cI cJ cZ l yX4_isPlace (.code yX4_isPlace cX4_isPlace 3 (some .boolean) :: gt) rm_X4_isPlace S [.ref (ad 1), .int x1, .int x2] post := by
  refine enI (by decide) (Nat.le_of_ble_eq_true rfl) ?_
  intro p e s m below meth c A ls C0 hw hl
  have C0 : Cx p s m _ meth c cX4_isPlace 3 RX4 (some .boolean) D cI cJ cZ A := C0
  have hl : lv_has ls 3 [(0, .ref (ad 1)), (1, .int x1), (2, .int x2)] := hl
  have hx := C0.1
  have hb := C0.2.1
  unfold wp_X4_isPlace at h
  refine lv_aload_n hx hb dX4_isPlace_0 rfl (lv_at hl 0 rfl) ?_
  refine lv_iload_n hx hb dX4_isPlace_1 rfl (lv_at hl 1 rfl) ?_
  refine clVI (As := [.int x1]) (rest := []) (ci := 3) (k := 1) C0 (m_X4_has l D ad cI cJ cZ S x1 _ h) cal_X4_has kw_13 kw_12 kw_14 rfl rfl rfl rfl hl.1 rfl (Nat.le_of_ble_eq_true rfl) ⟨Nat.le_of_ble_eq_true rfl, Nat.le_of_ble_eq_true rfl⟩ rfl rfl dX4_isPlace_2 hw (fun r2 S2 H locs h hw => ?_)
  replace h := h
  refine lv_if_eq (tgt := 15) hx hb dX4_isPlace_5 (by decide) (fun c5 => ?_) (fun c5 => ?_)
  · have h := h.1 c5
    refine lv_iconst (v := 0) hx hb dX4_isPlace_15 (by decide) ?_
    exact rtZ C0 hw rfl h dX4_isPlace_16
  · have h := h.2 c5
    refine lv_iload_n hx hb dX4_isPlace_8 rfl (lv_at hl 2 rfl) ?_
    refine clSI (As := [.int x2]) (rest := []) C0 (m_X3_isPath l D ad cI cJ cZ S2 x2 _ h) cal_X3_isPath kw_76 kw_75 rfl hl.1 rfl (Nat.le_of_ble_eq_true rfl) ⟨Nat.le_of_ble_eq_true rfl, Nat.le_of_ble_eq_true rfl⟩ rfl rfl dX4_isPlace_9 hw (fun r9 S9 H locs h hw => ?_)
    replace h := h
    refine lv_if_ne (tgt := 17) hx hb dX4_isPlace_12 (by decide) (fun c12 => ?_) (fun c12 => ?_)
    · have h := h.1 c12
      refine lv_iload_n hx hb dX4_isPlace_17 rfl (lv_at hl 2 rfl) ?_
      refine lv_if_ne (tgt := 23) hx hb dX4_isPlace_18 (by decide) (fun c18 => ?_) (fun c18 => ?_)
      · have h := h.1 c18
        refine lv_aload_n hx hb dX4_isPlace_23 rfl (lv_at hl 0 rfl) ?_
        refine lv_iload_n hx hb dX4_isPlace_24 rfl (lv_at hl 1 rfl) ?_
        refine clVI (As := [.int x1]) (rest := []) (ci := 3) (k := 1) C0 (m_X4_isReference l D ad cI cJ cZ S9 x1 _ h) cal_X4_isReference kw_51 kw_50 kw_49 rfl rfl rfl rfl hl.1 rfl (Nat.le_of_ble_eq_true rfl) ⟨Nat.le_of_ble_eq_true rfl, Nat.le_of_ble_eq_true rfl⟩ rfl rfl dX4_isPlace_25 hw (fun r25 S25 H locs h hw => ?_)
        replace h := h
        refine lv_if_eq (tgt := 45) hx hb dX4_isPlace_28 (by decide) (fun c28 => ?_) (fun c28 => ?_)
        · have h := h.1 c28
          refine lv_aload_n hx hb dX4_isPlace_45 rfl (lv_at hl 0 rfl) ?_
          refine lv_iload_n hx hb dX4_isPlace_46 rfl (lv_at hl 1 rfl) ?_
          refine clVI (As := [.int x1]) (rest := []) (ci := 3) (k := 1) C0 (m_X4_hasParts l D ad cI cJ cZ S25 x1 _ h) cal_X4_hasParts kw_17 kw_16 kw_15 rfl rfl rfl rfl hl.1 rfl (Nat.le_of_ble_eq_true rfl) ⟨Nat.le_of_ble_eq_true rfl, Nat.le_of_ble_eq_true rfl⟩ rfl rfl dX4_isPlace_47 hw (fun r47 S47 H locs h hw => ?_)
          replace h := h
          refine lv_if_eq (tgt := 66) hx hb dX4_isPlace_50 (by decide) (fun c50 => ?_) (fun c50 => ?_)
          · have h := h.1 c50
            refine lv_iconst (v := 1) hx hb dX4_isPlace_66 (by decide) ?_
            refine lv_goto (tgt := 71) hx hb dX4_isPlace_67 (by decide) ?_
            exact rtZ C0 hw rfl h dX4_isPlace_71
          · have h := h.2 c50
            refine lv_iload_n hx hb dX4_isPlace_53 rfl (lv_at hl 2 rfl) ?_
            refine clSI (As := [.int x2]) (rest := []) C0 (m_X3_firstDigit l D ad cI cJ cZ S47 x2 _ h) cal_X3_firstDigit kw_19 kw_18 rfl hl.1 rfl (Nat.le_of_ble_eq_true rfl) ⟨Nat.le_of_ble_eq_true rfl, Nat.le_of_ble_eq_true rfl⟩ rfl rfl dX4_isPlace_54 hw (fun r54 S54 H locs h hw => ?_)
            replace h := h
            refine lv_aload_n hx hb dX4_isPlace_57 rfl (lv_at hl 0 rfl) ?_
            refine gf_X4_leafCounts C0 hw dX4_isPlace_58 ?_
            refine lv_iload_n hx hb dX4_isPlace_61 rfl (lv_at hl 1 rfl) ?_
            refine ld_C_lcs C0 hw h.1 dX4_isPlace_62 ?_
            have h := h.2
            refine lv_icmp_gt (tgt := 70) hx hb dX4_isPlace_63 (by decide) (fun c63 => ?_) (fun c63 => ?_)
            · have h := h.1 c63
              refine lv_iconst (v := 0) hx hb dX4_isPlace_70 (by decide) ?_
              exact rtZ C0 hw rfl h dX4_isPlace_71
            · have h := h.2 c63
              refine lv_iconst (v := 1) hx hb dX4_isPlace_66 (by decide) ?_
              refine lv_goto (tgt := 71) hx hb dX4_isPlace_67 (by decide) ?_
              exact rtZ C0 hw rfl h dX4_isPlace_71
        · have h := h.2 c28
          refine lv_iload_n hx hb dX4_isPlace_31 rfl (lv_at hl 2 rfl) ?_
          refine clSI (As := [.int x2]) (rest := []) C0 (m_X3_firstDigit l D ad cI cJ cZ S25 x2 _ h) cal_X3_firstDigit kw_19 kw_18 rfl hl.1 rfl (Nat.le_of_ble_eq_true rfl) ⟨Nat.le_of_ble_eq_true rfl, Nat.le_of_ble_eq_true rfl⟩ rfl rfl dX4_isPlace_32 hw (fun r32 S32 H locs h hw => ?_)
          replace h := h
          refine lv_iconst (v := 5) hx hb dX4_isPlace_35 (by decide) ?_
          refine lv_icmp_ne (tgt := 43) hx hb dX4_isPlace_36 (by decide) (fun c36 => ?_) (fun c36 => ?_)
          · have h := h.1 c36
            refine lv_iconst (v := 0) hx hb dX4_isPlace_43 (by decide) ?_
            exact rtZ C0 hw rfl h dX4_isPlace_44
          · have h := h.2 c36
            refine lv_iconst (v := 1) hx hb dX4_isPlace_39 (by decide) ?_
            refine lv_goto (tgt := 44) hx hb dX4_isPlace_40 (by decide) ?_
            exact rtZ C0 hw rfl h dX4_isPlace_44
      · have h := h.2 c18
        refine lv_iconst (v := 1) hx hb dX4_isPlace_21 (by decide) ?_
        exact rtZ C0 hw rfl h dX4_isPlace_22
    · have h := h.2 c12
      refine lv_iconst (v := 0) hx hb dX4_isPlace_15 (by decide) ?_
      exact rtZ C0 hw rfl h dX4_isPlace_16
abbrev rm_X4_mayAct : Room := { frames := 3, cells := 0, slots := 0, locals := 65 }
set_option maxHeartbeats 4000000 in
set_option maxRecDepth 100000 in
theorem m_X4_mayAct (l : Launch) (D : va_G) (ad : Nat → Nat) (cI cJ cZ : ClassId) (S : CS) (x1 : Int32) (x2 : Int32) (x3 : Int32) (post : Int32 → CS → Prop) (h : wp_X4_mayAct S x1 x2 x3 post) : CI (WC ad cI cJ cZ) D cI cJ cZ l yX4_mayAct (.code yX4_mayAct cX4_mayAct 4 (some .boolean) :: gt) rm_X4_mayAct S [.ref (ad 1), .int x1, .int x2, .int x3] post := by
  refine enI (by decide) (Nat.le_of_ble_eq_true rfl) ?_
  intro p e s m below meth c A ls C0 hw hl
  have C0 : Cx p s m _ meth c cX4_mayAct 4 RX4 (some .boolean) D cI cJ cZ A := C0
  have hl : lv_has ls 4 [(0, .ref (ad 1)), (1, .int x1), (2, .int x2), (3, .int x3)] := hl
  have hx := C0.1
  have hb := C0.2.1
  unfold wp_X4_mayAct at h
  refine lv_aload_n hx hb dX4_mayAct_0 rfl (lv_at hl 0 rfl) ?_
  refine lv_iload_n hx hb dX4_mayAct_1 rfl (lv_at hl 2 rfl) ?_
  refine lv_iload_n hx hb dX4_mayAct_2 rfl (lv_at hl 3 rfl) ?_
  refine clVI (As := [.int x2, .int x3]) (rest := []) (ci := 3) (k := 1) C0 (m_X4_isPlace l D ad cI cJ cZ S x2 x3 _ h) cal_X4_isPlace kw_79 kw_78 kw_77 rfl rfl rfl rfl hl.1 rfl (Nat.le_of_ble_eq_true rfl) ⟨Nat.le_of_ble_eq_true rfl, Nat.le_of_ble_eq_true rfl⟩ rfl rfl dX4_mayAct_3 hw (fun r3 S3 H locs h hw => ?_)
  replace h := h
  refine lv_if_ne (tgt := 11) hx hb dX4_mayAct_6 (by decide) (fun c6 => ?_) (fun c6 => ?_)
  · have h := h.1 c6
    refine lv_iload_n hx hb dX4_mayAct_11 rfl (lv_at hl 1 rfl) ?_
    refine lv_iconst (v := 2) hx hb dX4_mayAct_12 (by decide) ?_
    refine lv_icmp_ne (tgt := 39) hx hb dX4_mayAct_13 (by decide) (fun c13 => ?_) (fun c13 => ?_)
    · have h := h.1 c13
      refine lv_aload_n hx hb dX4_mayAct_39 rfl (lv_at hl 0 rfl) ?_
      refine lv_iload_n hx hb dX4_mayAct_40 rfl (lv_at hl 2 rfl) ?_
      refine clVI (As := [.int x2]) (rest := []) (ci := 3) (k := 1) C0 (m_X4_isReference l D ad cI cJ cZ S3 x2 _ h) cal_X4_isReference kw_51 kw_50 kw_49 rfl rfl rfl rfl hl.1 rfl (Nat.le_of_ble_eq_true rfl) ⟨Nat.le_of_ble_eq_true rfl, Nat.le_of_ble_eq_true rfl⟩ rfl rfl dX4_mayAct_41 hw (fun r41 S41 H locs h hw => ?_)
      replace h := h
      refine lv_if_ne (tgt := 49) hx hb dX4_mayAct_44 (by decide) (fun c44 => ?_) (fun c44 => ?_)
      · have h := h.1 c44
        refine lv_iload_n hx hb dX4_mayAct_49 rfl (lv_at hl 3 rfl) ?_
        refine lv_if_eq (tgt := 70) hx hb dX4_mayAct_50 (by decide) (fun c50 => ?_) (fun c50 => ?_)
        · have h := h.1 c50
          refine lv_iconst (v := 0) hx hb dX4_mayAct_70 (by decide) ?_
          exact rtZ C0 hw rfl h dX4_mayAct_71
        · have h := h.2 c50
          refine lv_iload_n hx hb dX4_mayAct_53 rfl (lv_at hl 1 rfl) ?_
          refine lv_iconst (v := 1) hx hb dX4_mayAct_54 (by decide) ?_
          refine lv_icmp_eq (tgt := 66) hx hb dX4_mayAct_55 (by decide) (fun c55 => ?_) (fun c55 => ?_)
          · have h := h.1 c55
            refine lv_iconst (v := 1) hx hb dX4_mayAct_66 (by decide) ?_
            refine lv_goto (tgt := 71) hx hb dX4_mayAct_67 (by decide) ?_
            exact rtZ C0 hw rfl h dX4_mayAct_71
          · have h := h.2 c55
            refine lv_aload_n hx hb dX4_mayAct_58 rfl (lv_at hl 0 rfl) ?_
            refine lv_iload_n hx hb dX4_mayAct_59 rfl (lv_at hl 2 rfl) ?_
            refine clVI (As := [.int x2]) (rest := []) (ci := 3) (k := 1) C0 (m_X4_isSole l D ad cI cJ cZ S41 x2 _ h) cal_X4_isSole kw_43 kw_42 kw_80 rfl rfl rfl rfl hl.1 rfl (Nat.le_of_ble_eq_true rfl) ⟨Nat.le_of_ble_eq_true rfl, Nat.le_of_ble_eq_true rfl⟩ rfl rfl dX4_mayAct_60 hw (fun r60 S60 H locs h hw => ?_)
            replace h := h
            refine lv_if_eq (tgt := 70) hx hb dX4_mayAct_63 (by decide) (fun c63 => ?_) (fun c63 => ?_)
            · have h := h.1 c63
              refine lv_iconst (v := 0) hx hb dX4_mayAct_70 (by decide) ?_
              exact rtZ C0 hw rfl h dX4_mayAct_71
            · have h := h.2 c63
              refine lv_iconst (v := 1) hx hb dX4_mayAct_66 (by decide) ?_
              refine lv_goto (tgt := 71) hx hb dX4_mayAct_67 (by decide) ?_
              exact rtZ C0 hw rfl h dX4_mayAct_71
      · have h := h.2 c44
        refine lv_iconst (v := 1) hx hb dX4_mayAct_47 (by decide) ?_
        exact rtZ C0 hw rfl h dX4_mayAct_48
    · have h := h.2 c13
      refine lv_aload_n hx hb dX4_mayAct_16 rfl (lv_at hl 0 rfl) ?_
      refine lv_iload_n hx hb dX4_mayAct_17 rfl (lv_at hl 2 rfl) ?_
      refine clVI (As := [.int x2]) (rest := []) (ci := 3) (k := 1) C0 (m_X4_isReference l D ad cI cJ cZ S3 x2 _ h) cal_X4_isReference kw_51 kw_50 kw_49 rfl rfl rfl rfl hl.1 rfl (Nat.le_of_ble_eq_true rfl) ⟨Nat.le_of_ble_eq_true rfl, Nat.le_of_ble_eq_true rfl⟩ rfl rfl dX4_mayAct_18 hw (fun r18 S18 H locs h hw => ?_)
      replace h := h
      refine lv_if_ne (tgt := 37) hx hb dX4_mayAct_21 (by decide) (fun c21 => ?_) (fun c21 => ?_)
      · have h := h.1 c21
        refine lv_iconst (v := 0) hx hb dX4_mayAct_37 (by decide) ?_
        exact rtZ C0 hw rfl h dX4_mayAct_38
      · have h := h.2 c21
        refine lv_aload_n hx hb dX4_mayAct_24 rfl (lv_at hl 0 rfl) ?_
        refine lv_iload_n hx hb dX4_mayAct_25 rfl (lv_at hl 2 rfl) ?_
        refine lv_iload_n hx hb dX4_mayAct_26 rfl (lv_at hl 3 rfl) ?_
        refine clVI (As := [.int x2, .int x3]) (rest := []) (ci := 3) (k := 1) C0 (m_X4_isWithin l D ad cI cJ cZ S18 x2 x3 _ h) cal_X4_isWithin kw_34 kw_33 kw_81 rfl rfl rfl rfl hl.1 rfl (Nat.le_of_ble_eq_true rfl) ⟨Nat.le_of_ble_eq_true rfl, Nat.le_of_ble_eq_true rfl⟩ rfl rfl dX4_mayAct_27 hw (fun r27 S27 H locs h hw => ?_)
        replace h := h
        refine lv_if_ne (tgt := 37) hx hb dX4_mayAct_30 (by decide) (fun c30 => ?_) (fun c30 => ?_)
        · have h := h.1 c30
          refine lv_iconst (v := 0) hx hb dX4_mayAct_37 (by decide) ?_
          exact rtZ C0 hw rfl h dX4_mayAct_38
        · have h := h.2 c30
          refine lv_iconst (v := 1) hx hb dX4_mayAct_33 (by decide) ?_
          refine lv_goto (tgt := 38) hx hb dX4_mayAct_34 (by decide) ?_
          exact rtZ C0 hw rfl h dX4_mayAct_38
  · have h := h.2 c6
    refine lv_iconst (v := 0) hx hb dX4_mayAct_9 (by decide) ?_
    exact rtZ C0 hw rfl h dX4_mayAct_10
abbrev rm_X4_isShared : Room := { frames := 1, cells := 0, slots := 0, locals := 21 }
set_option maxHeartbeats 4000000 in
set_option maxRecDepth 100000 in
theorem m_X4_isShared (l : Launch) (D : va_G) (ad : Nat → Nat) (cI cJ cZ : ClassId) (S : CS) (x1 : Int32) (post : Int32 → CS → Prop) (h : wp_X4_isShared S x1 post) : CI (WC ad cI cJ cZ) D cI cJ cZ l yX4_isShared (.code yX4_isShared cX4_isShared 2 (some .boolean) :: gt) rm_X4_isShared S [.ref (ad 1), .int x1] post := by
  refine enI (by decide) (Nat.le_of_ble_eq_true rfl) ?_
  intro p e s m below meth c A ls C0 hw hl
  have C0 : Cx p s m _ meth c cX4_isShared 2 RX4 (some .boolean) D cI cJ cZ A := C0
  have hl : lv_has ls 2 [(0, .ref (ad 1)), (1, .int x1)] := hl
  have hx := C0.1
  have hb := C0.2.1
  unfold wp_X4_isShared at h
  refine lv_aload_n hx hb dX4_isShared_0 rfl (lv_at hl 0 rfl) ?_
  refine lv_iload_n hx hb dX4_isShared_1 rfl (lv_at hl 1 rfl) ?_
  refine clVI (As := [.int x1]) (rest := []) (ci := 3) (k := 1) C0 (m_X4_has l D ad cI cJ cZ S x1 _ h) cal_X4_has kw_13 kw_12 kw_14 rfl rfl rfl rfl hl.1 rfl (Nat.le_of_ble_eq_true rfl) ⟨Nat.le_of_ble_eq_true rfl, Nat.le_of_ble_eq_true rfl⟩ rfl rfl dX4_isShared_2 hw (fun r2 S2 H locs h hw => ?_)
  replace h := h
  refine lv_if_eq (tgt := 22) hx hb dX4_isShared_5 (by decide) (fun c5 => ?_) (fun c5 => ?_)
  · have h := h.1 c5
    refine lv_iconst (v := 0) hx hb dX4_isShared_22 (by decide) ?_
    exact rtZ C0 hw rfl h dX4_isShared_23
  · have h := h.2 c5
    refine lv_aload_n hx hb dX4_isShared_8 rfl (lv_at hl 0 rfl) ?_
    refine gf_X4_sorts C0 hw dX4_isShared_9 ?_
    refine lv_iload_n hx hb dX4_isShared_12 rfl (lv_at hl 1 rfl) ?_
    refine ld_C_sorts C0 hw h.1 dX4_isShared_13 ?_
    have h := h.2
    refine lv_iconst (v := 1) hx hb dX4_isShared_14 (by decide) ?_
    refine lv_icmp_ne (tgt := 22) hx hb dX4_isShared_15 (by decide) (fun c15 => ?_) (fun c15 => ?_)
    · have h := h.1 c15
      refine lv_iconst (v := 0) hx hb dX4_isShared_22 (by decide) ?_
      exact rtZ C0 hw rfl h dX4_isShared_23
    · have h := h.2 c15
      refine lv_iconst (v := 1) hx hb dX4_isShared_18 (by decide) ?_
      refine lv_goto (tgt := 23) hx hb dX4_isShared_19 (by decide) ?_
      exact rtZ C0 hw rfl h dX4_isShared_23
abbrev rm_X4_mayLend : Room := { frames := 3, cells := 0, slots := 0, locals := 65 }
set_option maxHeartbeats 4000000 in
set_option maxRecDepth 100000 in
theorem m_X4_mayLend (l : Launch) (D : va_G) (ad : Nat → Nat) (cI cJ cZ : ClassId) (S : CS) (x1 : Int32) (x2 : Int32) (x3 : Int32) (post : Int32 → CS → Prop) (h : wp_X4_mayLend S x1 x2 x3 post) : CI (WC ad cI cJ cZ) D cI cJ cZ l yX4_mayLend (.code yX4_mayLend cX4_mayLend 4 (some .boolean) :: gt) rm_X4_mayLend S [.ref (ad 1), .int x1, .int x2, .int x3] post := by
  refine enI (by decide) (Nat.le_of_ble_eq_true rfl) ?_
  intro p e s m below meth c A ls C0 hw hl
  have C0 : Cx p s m _ meth c cX4_mayLend 4 RX4 (some .boolean) D cI cJ cZ A := C0
  have hl : lv_has ls 4 [(0, .ref (ad 1)), (1, .int x1), (2, .int x2), (3, .int x3)] := hl
  have hx := C0.1
  have hb := C0.2.1
  unfold wp_X4_mayLend at h
  refine lv_aload_n hx hb dX4_mayLend_0 rfl (lv_at hl 0 rfl) ?_
  refine lv_iload_n hx hb dX4_mayLend_1 rfl (lv_at hl 1 rfl) ?_
  refine clVI (As := [.int x1]) (rest := []) (ci := 3) (k := 1) C0 (m_X4_isReference l D ad cI cJ cZ S x1 _ h) cal_X4_isReference kw_51 kw_50 kw_49 rfl rfl rfl rfl hl.1 rfl (Nat.le_of_ble_eq_true rfl) ⟨Nat.le_of_ble_eq_true rfl, Nat.le_of_ble_eq_true rfl⟩ rfl rfl dX4_mayLend_2 hw (fun r2 S2 H locs h hw => ?_)
  replace h := h
  refine lv_if_eq (tgt := 17) hx hb dX4_mayLend_5 (by decide) (fun c5 => ?_) (fun c5 => ?_)
  · have h := h.1 c5
    refine lv_iconst (v := 0) hx hb dX4_mayLend_17 (by decide) ?_
    exact rtZ C0 hw rfl h dX4_mayLend_18
  · have h := h.2 c5
    refine lv_aload_n hx hb dX4_mayLend_8 rfl (lv_at hl 0 rfl) ?_
    refine lv_iload_n hx hb dX4_mayLend_9 rfl (lv_at hl 2 rfl) ?_
    refine lv_iload_n hx hb dX4_mayLend_10 rfl (lv_at hl 3 rfl) ?_
    refine clVI (As := [.int x2, .int x3]) (rest := []) (ci := 3) (k := 1) C0 (m_X4_isPlace l D ad cI cJ cZ S2 x2 x3 _ h) cal_X4_isPlace kw_79 kw_78 kw_77 rfl rfl rfl rfl hl.1 rfl (Nat.le_of_ble_eq_true rfl) ⟨Nat.le_of_ble_eq_true rfl, Nat.le_of_ble_eq_true rfl⟩ rfl rfl dX4_mayLend_11 hw (fun r11 S11 H locs h hw => ?_)
    replace h := h
    refine lv_if_ne (tgt := 19) hx hb dX4_mayLend_14 (by decide) (fun c14 => ?_) (fun c14 => ?_)
    · have h := h.1 c14
      refine lv_aload_n hx hb dX4_mayLend_19 rfl (lv_at hl 0 rfl) ?_
      refine lv_iload_n hx hb dX4_mayLend_20 rfl (lv_at hl 2 rfl) ?_
      refine clVI (As := [.int x2]) (rest := []) (ci := 3) (k := 1) C0 (m_X4_isReference l D ad cI cJ cZ S11 x2 _ h) cal_X4_isReference kw_51 kw_50 kw_49 rfl rfl rfl rfl hl.1 rfl (Nat.le_of_ble_eq_true rfl) ⟨Nat.le_of_ble_eq_true rfl, Nat.le_of_ble_eq_true rfl⟩ rfl rfl dX4_mayLend_21 hw (fun r21 S21 H locs h hw => ?_)
      replace h := h
      refine lv_if_ne (tgt := 29) hx hb dX4_mayLend_24 (by decide) (fun c24 => ?_) (fun c24 => ?_)
      · have h := h.1 c24
        refine lv_iload_n hx hb dX4_mayLend_29 rfl (lv_at hl 3 rfl) ?_
        refine lv_if_eq (tgt := 53) hx hb dX4_mayLend_30 (by decide) (fun c30 => ?_) (fun c30 => ?_)
        · have h := h.1 c30
          refine lv_iconst (v := 0) hx hb dX4_mayLend_53 (by decide) ?_
          exact rtZ C0 hw rfl h dX4_mayLend_54
        · have h := h.2 c30
          refine lv_aload_n hx hb dX4_mayLend_33 rfl (lv_at hl 0 rfl) ?_
          refine lv_iload_n hx hb dX4_mayLend_34 rfl (lv_at hl 1 rfl) ?_
          refine clVI (As := [.int x1]) (rest := []) (ci := 3) (k := 1) C0 (m_X4_isShared l D ad cI cJ cZ S21 x1 _ h) cal_X4_isShared kw_87 kw_86 kw_85 rfl rfl rfl rfl hl.1 rfl (Nat.le_of_ble_eq_true rfl) ⟨Nat.le_of_ble_eq_true rfl, Nat.le_of_ble_eq_true rfl⟩ rfl rfl dX4_mayLend_35 hw (fun r35 S35 H locs h hw => ?_)
          replace h := h
          refine lv_if_ne (tgt := 49) hx hb dX4_mayLend_38 (by decide) (fun c38 => ?_) (fun c38 => ?_)
          · have h := h.1 c38
            refine lv_iconst (v := 1) hx hb dX4_mayLend_49 (by decide) ?_
            refine lv_goto (tgt := 54) hx hb dX4_mayLend_50 (by decide) ?_
            exact rtZ C0 hw rfl h dX4_mayLend_54
          · have h := h.2 c38
            refine lv_aload_n hx hb dX4_mayLend_41 rfl (lv_at hl 0 rfl) ?_
            refine lv_iload_n hx hb dX4_mayLend_42 rfl (lv_at hl 2 rfl) ?_
            refine clVI (As := [.int x2]) (rest := []) (ci := 3) (k := 1) C0 (m_X4_isSole l D ad cI cJ cZ S35 x2 _ h) cal_X4_isSole kw_43 kw_42 kw_80 rfl rfl rfl rfl hl.1 rfl (Nat.le_of_ble_eq_true rfl) ⟨Nat.le_of_ble_eq_true rfl, Nat.le_of_ble_eq_true rfl⟩ rfl rfl dX4_mayLend_43 hw (fun r43 S43 H locs h hw => ?_)
            replace h := h
            refine lv_if_eq (tgt := 53) hx hb dX4_mayLend_46 (by decide) (fun c46 => ?_) (fun c46 => ?_)
            · have h := h.1 c46
              refine lv_iconst (v := 0) hx hb dX4_mayLend_53 (by decide) ?_
              exact rtZ C0 hw rfl h dX4_mayLend_54
            · have h := h.2 c46
              refine lv_iconst (v := 1) hx hb dX4_mayLend_49 (by decide) ?_
              refine lv_goto (tgt := 54) hx hb dX4_mayLend_50 (by decide) ?_
              exact rtZ C0 hw rfl h dX4_mayLend_54
      · have h := h.2 c24
        refine lv_iconst (v := 1) hx hb dX4_mayLend_27 (by decide) ?_
        exact rtZ C0 hw rfl h dX4_mayLend_28
    · have h := h.2 c14
      refine lv_iconst (v := 0) hx hb dX4_mayLend_17 (by decide) ?_
      exact rtZ C0 hw rfl h dX4_mayLend_18
abbrev rm_X4_mayCopy : Room := { frames := 2, cells := 0, slots := 0, locals := 42 }
set_option maxHeartbeats 4000000 in
set_option maxRecDepth 100000 in
theorem m_X4_mayCopy (l : Launch) (D : va_G) (ad : Nat → Nat) (cI cJ cZ : ClassId) (S : CS) (x1 : Int32) (x2 : Int32) (post : Int32 → CS → Prop) (h : wp_X4_mayCopy S x1 x2 post) : CI (WC ad cI cJ cZ) D cI cJ cZ l yX4_mayCopy (.code yX4_mayCopy cX4_mayCopy 3 (some .boolean) :: gt) rm_X4_mayCopy S [.ref (ad 1), .int x1, .int x2] post := by
  refine enI (by decide) (Nat.le_of_ble_eq_true rfl) ?_
  intro p e s m below meth c A ls C0 hw hl
  have C0 : Cx p s m _ meth c cX4_mayCopy 3 RX4 (some .boolean) D cI cJ cZ A := C0
  have hl : lv_has ls 3 [(0, .ref (ad 1)), (1, .int x1), (2, .int x2)] := hl
  have hx := C0.1
  have hb := C0.2.1
  unfold wp_X4_mayCopy at h
  refine lv_iload_n hx hb dX4_mayCopy_0 rfl (lv_at hl 1 rfl) ?_
  refine lv_iload_n hx hb dX4_mayCopy_1 rfl (lv_at hl 2 rfl) ?_
  refine lv_icmp_eq (tgt := 40) hx hb dX4_mayCopy_2 (by decide) (fun c2 => ?_) (fun c2 => ?_)
  · have h := h.1 c2
    refine lv_iconst (v := 0) hx hb dX4_mayCopy_40 (by decide) ?_
    exact rtZ C0 hw rfl h dX4_mayCopy_41
  · have h := h.2 c2
    refine lv_aload_n hx hb dX4_mayCopy_5 rfl (lv_at hl 0 rfl) ?_
    refine lv_iload_n hx hb dX4_mayCopy_6 rfl (lv_at hl 1 rfl) ?_
    refine clVI (As := [.int x1]) (rest := []) (ci := 3) (k := 1) C0 (m_X4_isReference l D ad cI cJ cZ S x1 _ h) cal_X4_isReference kw_51 kw_50 kw_49 rfl rfl rfl rfl hl.1 rfl (Nat.le_of_ble_eq_true rfl) ⟨Nat.le_of_ble_eq_true rfl, Nat.le_of_ble_eq_true rfl⟩ rfl rfl dX4_mayCopy_7 hw (fun r7 S7 H locs h hw => ?_)
    replace h := h
    refine lv_if_eq (tgt := 40) hx hb dX4_mayCopy_10 (by decide) (fun c10 => ?_) (fun c10 => ?_)
    · have h := h.1 c10
      refine lv_iconst (v := 0) hx hb dX4_mayCopy_40 (by decide) ?_
      exact rtZ C0 hw rfl h dX4_mayCopy_41
    · have h := h.2 c10
      refine lv_aload_n hx hb dX4_mayCopy_13 rfl (lv_at hl 0 rfl) ?_
      refine lv_iload_n hx hb dX4_mayCopy_14 rfl (lv_at hl 2 rfl) ?_
      refine clVI (As := [.int x2]) (rest := []) (ci := 3) (k := 1) C0 (m_X4_isReference l D ad cI cJ cZ S7 x2 _ h) cal_X4_isReference kw_51 kw_50 kw_49 rfl rfl rfl rfl hl.1 rfl (Nat.le_of_ble_eq_true rfl) ⟨Nat.le_of_ble_eq_true rfl, Nat.le_of_ble_eq_true rfl⟩ rfl rfl dX4_mayCopy_15 hw (fun r15 S15 H locs h hw => ?_)
      replace h := h
      refine lv_if_eq (tgt := 40) hx hb dX4_mayCopy_18 (by decide) (fun c18 => ?_) (fun c18 => ?_)
      · have h := h.1 c18
        refine lv_iconst (v := 0) hx hb dX4_mayCopy_40 (by decide) ?_
        exact rtZ C0 hw rfl h dX4_mayCopy_41
      · have h := h.2 c18
        refine lv_aload_n hx hb dX4_mayCopy_21 rfl (lv_at hl 0 rfl) ?_
        refine gf_X4_sorts C0 hw dX4_mayCopy_22 ?_
        refine lv_iload_n hx hb dX4_mayCopy_25 rfl (lv_at hl 1 rfl) ?_
        refine ld_C_sorts C0 hw h.1 dX4_mayCopy_26 ?_
        have h := h.2
        refine lv_aload_n hx hb dX4_mayCopy_27 rfl (lv_at hl 0 rfl) ?_
        refine gf_X4_sorts C0 hw dX4_mayCopy_28 ?_
        refine lv_iload_n hx hb dX4_mayCopy_31 rfl (lv_at hl 2 rfl) ?_
        refine ld_C_sorts C0 hw h.1 dX4_mayCopy_32 ?_
        have h := h.2
        refine lv_icmp_ne (tgt := 40) hx hb dX4_mayCopy_33 (by decide) (fun c33 => ?_) (fun c33 => ?_)
        · have h := h.1 c33
          refine lv_iconst (v := 0) hx hb dX4_mayCopy_40 (by decide) ?_
          exact rtZ C0 hw rfl h dX4_mayCopy_41
        · have h := h.2 c33
          refine lv_iconst (v := 1) hx hb dX4_mayCopy_36 (by decide) ?_
          refine lv_goto (tgt := 41) hx hb dX4_mayCopy_37 (by decide) ?_
          exact rtZ C0 hw rfl h dX4_mayCopy_41
abbrev rm_X5_nextOf : Room := { frames := 0, cells := 0, slots := 0, locals := 0 }
set_option maxHeartbeats 4000000 in
set_option maxRecDepth 100000 in
theorem m_X5_nextOf (l : Launch) (D : va_G) (ad : Nat → Nat) (cI cJ cZ : ClassId) (S : CS) (x1 : Int32) (x2 : Int32) (post : Int32 → CS → Prop) (h : wp_X5_nextOf S x1 x2 post) : CI (WC ad cI cJ cZ) D cI cJ cZ l yX5_nextOf (.code yX5_nextOf cX5_nextOf 3 (some .int) :: gt) rm_X5_nextOf S [.ref (ad 14), .int x1, .int x2] post := by
  refine enI (by decide) (Nat.le_of_ble_eq_true rfl) ?_
  intro p e s m below meth c A ls C0 hw hl
  have C0 : Cx p s m _ meth c cX5_nextOf 3 RX5 (some .int) D cI cJ cZ A := C0
  have hl : lv_has ls 3 [(0, .ref (ad 14)), (1, .int x1), (2, .int x2)] := hl
  have hx := C0.1
  have hb := C0.2.1
  unfold wp_X5_nextOf at h
  refine lv_aload_n hx hb dX5_nextOf_0 rfl (lv_at hl 0 rfl) ?_
  refine gf_X5_nexts C0 hw dX5_nextOf_1 ?_
  refine lv_iload_n hx hb dX5_nextOf_4 rfl (lv_at hl 1 rfl) ?_
  refine lv_iconst (v := 4) hx hb dX5_nextOf_5 (by decide) ?_
  refine lv_imul hx hb dX5_nextOf_6 ?_
  refine lv_iload_n hx hb dX5_nextOf_7 rfl (lv_at hl 2 rfl) ?_
  refine lv_iadd hx hb dX5_nextOf_8 ?_
  refine ld_C_nexts C0 hw h.1 dX5_nextOf_9 ?_
  have h := h.2
  exact rtI C0 hw h dX5_nextOf_10
abbrev rm_X5_indexOf : Room := { frames := 1, cells := 0, slots := 0, locals := 22 }
set_option maxHeartbeats 4000000 in
set_option maxRecDepth 100000 in
theorem mb_X5_indexOf_2 {p : Program} {l : Launch} {e : Env} {s : State} {m : MethodId} {args : Array Value} {below : List Frame} {meth : Method} {c : Code} {D : va_G} {ad : Nat → Nat} {cI cJ cZ : ClassId} {A : Nat → Prop} {post : Int32 → CS → Prop} (C0 : Cx p s m args meth c cX5_indexOf 4 RX5 (some .int) D cI cJ cZ A) :
 ∀ (n : Nat) (x1 : Int32) (x2 : Int32) (x3 : Int32) (S : CS) (H : Heap) (locs : List Loc) (ls : Array Slot), wp_X5_indexOf_2 post n x1 x2 x3 S → Wd (WC ad cI cJ cZ) D A s.heap H locs S → lv_has ls 4 [(0, .ref (ad 14)), (1, .int x1), (2, .int x2), (3, .int x3)] → W p l e rm_X5_indexOf s m args below meth c H locs 0 0 (QI (WC ad cI cJ cZ) D A s args below post) (F0 m 2 ls []) := by
  have hx := C0.1
  have hb := C0.2.1
  intro n
  induction n with
  | zero => intro x1 x2 x3 S H locs ls h; exact h.elim
  | succ n ih =>
    intro x1 x2 x3 S H locs ls h hw hl
    replace h : ws_X5_indexOf_2 (wp_X5_indexOf_2  post n)  post x1 x2 x3 S := h
    unfold ws_X5_indexOf_2 at h
    refine lv_iload_n hx hb dX5_indexOf_2 rfl (lv_at hl 3 rfl) ?_
    refine lv_aload_n hx hb dX5_indexOf_3 rfl (lv_at hl 0 rfl) ?_
    refine gf_X5_nextCounts C0 hw dX5_indexOf_4 ?_
    refine lv_iload_n hx hb dX5_indexOf_7 rfl (lv_at hl 1 rfl) ?_
    refine ld_C_ncnt C0 hw h.1 dX5_indexOf_8 ?_
    have h := h.2
    refine lv_icmp_ge (tgt := 30) hx hb dX5_indexOf_9 (by decide) (fun c9 => ?_) (fun c9 => ?_)
    · have h := h.1 c9
      refine lv_iconst (v := -1) hx hb dX5_indexOf_30 (by decide) ?_
      exact rtI C0 hw h dX5_indexOf_31
    · have h := h.2 c9
      refine lv_aload_n hx hb dX5_indexOf_12 rfl (lv_at hl 0 rfl) ?_
      refine lv_iload_n hx hb dX5_indexOf_13 rfl (lv_at hl 1 rfl) ?_
      refine lv_iload_n hx hb dX5_indexOf_14 rfl (lv_at hl 3 rfl) ?_
      refine clVI (As := [.int x1, .int x3]) (rest := []) (ci := 4) (k := 14) C0 (m_X5_nextOf l D ad cI cJ cZ S x1 x3 _ h) cal_X5_nextOf kw_97 kw_96 kw_95 rfl rfl rfl rfl hl.1 rfl (Nat.le_of_ble_eq_true rfl) ⟨Nat.le_of_ble_eq_true rfl, Nat.le_of_ble_eq_true rfl⟩ rfl rfl dX5_indexOf_15 hw (fun r15 S15 H locs h hw => ?_)
      replace h := h
      refine lv_iload_n hx hb dX5_indexOf_18 rfl (lv_at hl 2 rfl) ?_
      refine lv_icmp_ne (tgt := 24) hx hb dX5_indexOf_19 (by decide) (fun c19 => ?_) (fun c19 => ?_)
      · have h := h.1 c19
        obtain ⟨x3_1, ex3_1⟩ : ∃ y : Int32, y = x3 + (1 : Int32) := ⟨_, rfl⟩
        refine lv_iinc (v := x3_1) (lv' := [(3, .int x3_1), (0, .ref (ad 14)), (1, .int x1), (2, .int x2)]) hx hb dX5_indexOf_24 hl (k := 3) rfl (by rw [ex3_1]; rfl) (by decide) rfl (fun ls hl => ?_)
        have h := h x3_1 ex3_1
        refine lv_goto (tgt := 2) hx hb dX5_indexOf_27 (by decide) ?_
        replace hl := lv_sub hl [1, 2, 3, 0] rfl
        exact ih x1 x2 x3_1 S15 _ _ _ h hw hl
      · have h := h.2 c19
        refine lv_iload_n hx hb dX5_indexOf_22 rfl (lv_at hl 3 rfl) ?_
        exact rtI C0 hw h dX5_indexOf_23
set_option maxHeartbeats 4000000 in
set_option maxRecDepth 100000 in
theorem m_X5_indexOf (l : Launch) (D : va_G) (ad : Nat → Nat) (cI cJ cZ : ClassId) (S : CS) (x1 : Int32) (x2 : Int32) (post : Int32 → CS → Prop) (h : wp_X5_indexOf S x1 x2 post) : CI (WC ad cI cJ cZ) D cI cJ cZ l yX5_indexOf (.code yX5_indexOf cX5_indexOf 4 (some .int) :: gt) rm_X5_indexOf S [.ref (ad 14), .int x1, .int x2] post := by
  refine enI (by decide) (Nat.le_of_ble_eq_true rfl) ?_
  intro p e s m below meth c A ls C0 hw hl
  have C0 : Cx p s m _ meth c cX5_indexOf 4 RX5 (some .int) D cI cJ cZ A := C0
  have hl : lv_has ls 4 [(0, .ref (ad 14)), (1, .int x1), (2, .int x2)] := hl
  have hx := C0.1
  have hb := C0.2.1
  unfold wp_X5_indexOf at h
  refine lv_iconst (v := 0) hx hb dX5_indexOf_0 (by decide) ?_
  refine lv_istore_n (lv' := [(3, .int (0 : Int32)), (0, .ref (ad 14)), (1, .int x1), (2, .int x2)]) hx hb dX5_indexOf_1 rfl hl (by decide) rfl (fun ls hl => ?_)
  replace hl := lv_sub hl [1, 2, 3, 0] rfl
  obtain ⟨n, h⟩ := h
  exact mb_X5_indexOf_2 C0 n x1 x2 (0 : Int32) S _ _ ls h hw hl
abbrev rm_X5_remove : Room := { frames := 2, cells := 0, slots := 0, locals := 45 }
set_option maxHeartbeats 4000000 in
set_option maxRecDepth 100000 in
theorem m_X5_remove (l : Launch) (D : va_G) (ad : Nat → Nat) (cI cJ cZ : ClassId) (S : CS) (x1 : Int32) (x2 : Int32) (post : CS → Prop) (h : wp_X5_remove S x1 x2 post) : CV (WC ad cI cJ cZ) D cI cJ cZ l yX5_remove (.code yX5_remove cX5_remove 4 none :: gt) rm_X5_remove S [.ref (ad 14), .int x1, .int x2] post := by
  refine enV (by decide) (Nat.le_of_ble_eq_true rfl) ?_
  intro p e s m below meth c A ls C0 hw hl
  have C0 : Cx p s m _ meth c cX5_remove 4 RX5 none D cI cJ cZ A := C0
  have hl : lv_has ls 4 [(0, .ref (ad 14)), (1, .int x1), (2, .int x2)] := hl
  have hx := C0.1
  have hb := C0.2.1
  unfold wp_X5_remove at h
  refine lv_aload_n hx hb dX5_remove_0 rfl (lv_at hl 0 rfl) ?_
  refine lv_iload_n hx hb dX5_remove_1 rfl (lv_at hl 1 rfl) ?_
  refine lv_iload_n hx hb dX5_remove_2 rfl (lv_at hl 2 rfl) ?_
  refine clVI (As := [.int x1, .int x2]) (rest := []) (ci := 4) (k := 14) C0 (m_X5_indexOf l D ad cI cJ cZ S x1 x2 _ h) cal_X5_indexOf kw_100 kw_99 kw_98 rfl rfl rfl rfl hl.1 rfl (Nat.le_of_ble_eq_true rfl) ⟨Nat.le_of_ble_eq_true rfl, Nat.le_of_ble_eq_true rfl⟩ rfl rfl dX5_remove_3 hw (fun r3 S3 H locs h hw => ?_)
  replace h := h
  refine lv_istore_n (lv' := [(3, .int r3), (0, .ref (ad 14)), (1, .int x1), (2, .int x2)]) hx hb dX5_remove_6 rfl hl (by decide) rfl (fun ls hl => ?_)
  refine lv_iload_n hx hb dX5_remove_7 rfl (lv_at hl 0 rfl) ?_
  refine lv_iconst (v := -1) hx hb dX5_remove_8 (by decide) ?_
  refine lv_icmp_eq (tgt := 47) hx hb dX5_remove_9 (by decide) (fun c9 => ?_) (fun c9 => ?_)
  · have h := h.1 c9
    exact rtV C0 hw h dX5_remove_47
  · have h := h.2 c9
    refine lv_aload_n hx hb dX5_remove_12 rfl (lv_at hl 1 rfl) ?_
    refine gf_X5_nextCounts C0 hw dX5_remove_13 ?_
    refine lv_iload_n hx hb dX5_remove_16 rfl (lv_at hl 2 rfl) ?_
    refine lv_dup2_11 hx hb dX5_remove_17 rfl rfl ?_
    refine ld_C_ncnt C0 hw h.1 dX5_remove_18 ?_
    have h := h.2
    refine lv_iconst (v := 1) hx hb dX5_remove_19 (by decide) ?_
    refine lv_isub hx hb dX5_remove_20 ?_
    refine st_C_ncnt C0 hw h.1 dX5_remove_21 (fun H locs hw => ?_)
    have h := h.2
    obtain ⟨S_1, eS_1⟩ : ∃ z, z = sC_ncnt S3 (upd (gC_ncnt S3) (x1).toNatClampNeg ((gC_ncnt S3 (x1).toNatClampNeg) - (1 : Int32))) := ⟨_, rfl⟩
    rw [← eS_1] at hw
    have h := h S_1 eS_1
    refine lv_aload_n hx hb dX5_remove_22 rfl (lv_at hl 1 rfl) ?_
    refine gf_X5_nexts C0 hw dX5_remove_23 ?_
    refine lv_iload_n hx hb dX5_remove_26 rfl (lv_at hl 2 rfl) ?_
    refine lv_iconst (v := 4) hx hb dX5_remove_27 (by decide) ?_
    refine lv_imul hx hb dX5_remove_28 ?_
    refine lv_iload_n hx hb dX5_remove_29 rfl (lv_at hl 0 rfl) ?_
    refine lv_iadd hx hb dX5_remove_30 ?_
    refine lv_aload_n hx hb dX5_remove_31 rfl (lv_at hl 1 rfl) ?_
    refine gf_X5_nexts C0 hw dX5_remove_32 ?_
    refine lv_iload_n hx hb dX5_remove_35 rfl (lv_at hl 2 rfl) ?_
    refine lv_iconst (v := 4) hx hb dX5_remove_36 (by decide) ?_
    refine lv_imul hx hb dX5_remove_37 ?_
    refine lv_aload_n hx hb dX5_remove_38 rfl (lv_at hl 1 rfl) ?_
    refine gf_X5_nextCounts C0 hw dX5_remove_39 ?_
    refine lv_iload_n hx hb dX5_remove_42 rfl (lv_at hl 2 rfl) ?_
    refine ld_C_ncnt C0 hw h.1 dX5_remove_43 ?_
    have h := h.2
    refine lv_iadd hx hb dX5_remove_44 ?_
    refine ld_C_nexts C0 hw h.1 dX5_remove_45 ?_
    have h := h.2
    refine st_C_nexts C0 hw h.1 dX5_remove_46 (fun H locs hw => ?_)
    have h := h.2
    obtain ⟨S_2, eS_2⟩ : ∃ z, z = sC_nexts S_1 (upd (gC_nexts S_1) ((x1 * (4 : Int32)) + r3).toNatClampNeg (gC_nexts S_1 ((x1 * (4 : Int32)) + (gC_ncnt S_1 (x1).toNatClampNeg)).toNatClampNeg)) := ⟨_, rfl⟩
    rw [← eS_2] at hw
    have h := h S_2 eS_2
    exact rtV C0 hw h dX5_remove_47
abbrev rm_X5_add : Room := { frames := 2, cells := 0, slots := 0, locals := 45 }
set_option maxHeartbeats 4000000 in
set_option maxRecDepth 100000 in
theorem m_X5_add (l : Launch) (D : va_G) (ad : Nat → Nat) (cI cJ cZ : ClassId) (S : CS) (x1 : Int32) (x2 : Int32) (post : Int32 → CS → Prop) (h : wp_X5_add S x1 x2 post) : CI (WC ad cI cJ cZ) D cI cJ cZ l yX5_add (.code yX5_add cX5_add 3 (some .boolean) :: gt) rm_X5_add S [.ref (ad 14), .int x1, .int x2] post := by
  refine enI (by decide) (Nat.le_of_ble_eq_true rfl) ?_
  intro p e s m below meth c A ls C0 hw hl
  have C0 : Cx p s m _ meth c cX5_add 3 RX5 (some .boolean) D cI cJ cZ A := C0
  have hl : lv_has ls 3 [(0, .ref (ad 14)), (1, .int x1), (2, .int x2)] := hl
  have hx := C0.1
  have hb := C0.2.1
  unfold wp_X5_add at h
  refine lv_aload_n hx hb dX5_add_0 rfl (lv_at hl 0 rfl) ?_
  refine lv_iload_n hx hb dX5_add_1 rfl (lv_at hl 1 rfl) ?_
  refine lv_iload_n hx hb dX5_add_2 rfl (lv_at hl 2 rfl) ?_
  refine clVI (As := [.int x1, .int x2]) (rest := []) (ci := 4) (k := 14) C0 (m_X5_indexOf l D ad cI cJ cZ S x1 x2 _ h) cal_X5_indexOf kw_100 kw_99 kw_98 rfl rfl rfl rfl hl.1 rfl (Nat.le_of_ble_eq_true rfl) ⟨Nat.le_of_ble_eq_true rfl, Nat.le_of_ble_eq_true rfl⟩ rfl rfl dX5_add_3 hw (fun r3 S3 H locs h hw => ?_)
  replace h := h
  refine lv_iconst (v := -1) hx hb dX5_add_6 (by decide) ?_
  refine lv_icmp_eq (tgt := 12) hx hb dX5_add_7 (by decide) (fun c7 => ?_) (fun c7 => ?_)
  · have h := h.1 c7
    refine lv_aload_n hx hb dX5_add_12 rfl (lv_at hl 0 rfl) ?_
    refine gf_X5_nextCounts C0 hw dX5_add_13 ?_
    refine lv_iload_n hx hb dX5_add_16 rfl (lv_at hl 1 rfl) ?_
    refine ld_C_ncnt C0 hw h.1 dX5_add_17 ?_
    have h := h.2
    refine lv_iconst (v := 4) hx hb dX5_add_18 (by decide) ?_
    refine lv_icmp_lt (tgt := 24) hx hb dX5_add_19 (by decide) (fun c19 => ?_) (fun c19 => ?_)
    · have h := h.1 c19
      refine lv_aload_n hx hb dX5_add_24 rfl (lv_at hl 0 rfl) ?_
      refine gf_X5_nexts C0 hw dX5_add_25 ?_
      refine lv_iload_n hx hb dX5_add_28 rfl (lv_at hl 1 rfl) ?_
      refine lv_iconst (v := 4) hx hb dX5_add_29 (by decide) ?_
      refine lv_imul hx hb dX5_add_30 ?_
      refine lv_aload_n hx hb dX5_add_31 rfl (lv_at hl 0 rfl) ?_
      refine gf_X5_nextCounts C0 hw dX5_add_32 ?_
      refine lv_iload_n hx hb dX5_add_35 rfl (lv_at hl 1 rfl) ?_
      refine ld_C_ncnt C0 hw h.1 dX5_add_36 ?_
      have h := h.2
      refine lv_iadd hx hb dX5_add_37 ?_
      refine lv_iload_n hx hb dX5_add_38 rfl (lv_at hl 2 rfl) ?_
      refine st_C_nexts C0 hw h.1 dX5_add_39 (fun H locs hw => ?_)
      have h := h.2
      obtain ⟨S_1, eS_1⟩ : ∃ z, z = sC_nexts S3 (upd (gC_nexts S3) ((x1 * (4 : Int32)) + (gC_ncnt S3 (x1).toNatClampNeg)).toNatClampNeg x2) := ⟨_, rfl⟩
      rw [← eS_1] at hw
      have h := h S_1 eS_1
      refine lv_aload_n hx hb dX5_add_40 rfl (lv_at hl 0 rfl) ?_
      refine gf_X5_nextCounts C0 hw dX5_add_41 ?_
      refine lv_iload_n hx hb dX5_add_44 rfl (lv_at hl 1 rfl) ?_
      refine lv_dup2_11 hx hb dX5_add_45 rfl rfl ?_
      refine ld_C_ncnt C0 hw h.1 dX5_add_46 ?_
      have h := h.2
      refine lv_iconst (v := 1) hx hb dX5_add_47 (by decide) ?_
      refine lv_iadd hx hb dX5_add_48 ?_
      refine st_C_ncnt C0 hw h.1 dX5_add_49 (fun H locs hw => ?_)
      have h := h.2
      obtain ⟨S_2, eS_2⟩ : ∃ z, z = sC_ncnt S_1 (upd (gC_ncnt S_1) (x1).toNatClampNeg ((gC_ncnt S_1 (x1).toNatClampNeg) + (1 : Int32))) := ⟨_, rfl⟩
      rw [← eS_2] at hw
      have h := h S_2 eS_2
      refine lv_iconst (v := 1) hx hb dX5_add_50 (by decide) ?_
      exact rtZ C0 hw rfl h dX5_add_51
    · have h := h.2 c19
      refine lv_iconst (v := 0) hx hb dX5_add_22 (by decide) ?_
      exact rtZ C0 hw rfl h dX5_add_23
  · have h := h.2 c7
    refine lv_iconst (v := 1) hx hb dX5_add_10 (by decide) ?_
    exact rtZ C0 hw rfl h dX5_add_11
abbrev rm_X5_walk : Room := { frames := 1, cells := 0, slots := 0, locals := 23 }
set_option maxHeartbeats 4000000 in
set_option maxRecDepth 100000 in
theorem mb_X5_walk_145 {p : Program} {l : Launch} {e : Env} {s : State} {m : MethodId} {args : Array Value} {below : List Frame} {meth : Method} {c : Code} {D : va_G} {ad : Nat → Nat} {cI cJ cZ : ClassId} {A : Nat → Prop} {post : CS → Prop} (C0 : Cx p s m args meth c cX5_walk 5 RX5 none D cI cJ cZ A) (K31 : Int32 → Int32 → CS → Prop) (hK31 : ∀ (x1 : Int32) (x2 : Int32) (S : CS) (H : Heap) (locs : List Loc) (ls : Array Slot), K31 x1 x2 S → Wd (WC ad cI cJ cZ) D A s.heap H locs S → lv_has ls 5 [(0, .ref (ad 14)), (1, .int x1), (2, .int x2)] → W p l e rm_X5_walk s m args below meth c H locs 0 0 (QV (WC ad cI cJ cZ) D A s args below post) (F0 m 31 ls [])) :
 ∀ (x1 : Int32) (x2 : Int32) (S : CS) (H : Heap) (locs : List Loc) (ls : Array Slot), wp_X5_walk_145 K31 post x1 x2 S → Wd (WC ad cI cJ cZ) D A s.heap H locs S → lv_has ls 5 [(0, .ref (ad 14)), (1, .int x1), (2, .int x2)] → W p l e rm_X5_walk s m args below meth c H locs 0 0 (QV (WC ad cI cJ cZ) D A s args below post) (F0 m 145 ls []) := by
  have hx := C0.1
  have hb := C0.2.1
  intro x1 x2 S H locs ls h hw hl
  unfold wp_X5_walk_145 at h
  obtain ⟨x2_1, ex2_1⟩ : ∃ y : Int32, y = x2 + (1 : Int32) := ⟨_, rfl⟩
  refine lv_iinc (v := x2_1) (lv' := [(2, .int x2_1), (0, .ref (ad 14)), (1, .int x1)]) hx hb dX5_walk_145 hl (k := 2) rfl (by rw [ex2_1]; rfl) (by decide) rfl (fun ls hl => ?_)
  have h := h x2_1 ex2_1
  refine lv_goto (tgt := 31) hx hb dX5_walk_148 (by decide) ?_
  replace hl := lv_sub hl [1, 2, 0] rfl
  exact hK31 x1 x2_1 S _ _ _ h hw hl
set_option maxHeartbeats 4000000 in
set_option maxRecDepth 100000 in
theorem mb_X5_walk_31 {p : Program} {l : Launch} {e : Env} {s : State} {m : MethodId} {args : Array Value} {below : List Frame} {meth : Method} {c : Code} {D : va_G} {ad : Nat → Nat} {cI cJ cZ : ClassId} {A : Nat → Prop} {post : CS → Prop} (C0 : Cx p s m args meth c cX5_walk 5 RX5 none D cI cJ cZ A) :
 ∀ (n : Nat) (x1 : Int32) (x2 : Int32) (S : CS) (H : Heap) (locs : List Loc) (ls : Array Slot), wp_X5_walk_31 post n x1 x2 S → Wd (WC ad cI cJ cZ) D A s.heap H locs S → lv_has ls 5 [(0, .ref (ad 14)), (1, .int x1), (2, .int x2)] → W p l e rm_X5_walk s m args below meth c H locs 0 0 (QV (WC ad cI cJ cZ) D A s args below post) (F0 m 31 ls []) := by
  have hx := C0.1
  have hb := C0.2.1
  intro n
  induction n with
  | zero => intro x1 x2 S H locs ls h; exact h.elim
  | succ n ih =>
    intro x1 x2 S H locs ls h hw hl
    replace h : ws_X5_walk_31 (wp_X5_walk_31  post n)  post x1 x2 S := h
    unfold ws_X5_walk_31 at h
    refine lv_iload_n hx hb dX5_walk_31 rfl (lv_at hl 2 rfl) ?_
    refine lv_sipush (v := 750) hx hb dX5_walk_32 (by decide) ?_
    refine lv_icmp_ge (tgt := 151) hx hb dX5_walk_35 (by decide) (fun c35 => ?_) (fun c35 => ?_)
    · have h := h.1 c35
      exact rtV C0 hw h dX5_walk_151
    · have h := h.2 c35
      refine lv_iload_n hx hb dX5_walk_38 rfl (lv_at hl 1 rfl) ?_
      refine lv_if_le (tgt := 151) hx hb dX5_walk_39 (by decide) (fun c39 => ?_) (fun c39 => ?_)
      · have h := h.1 c39
        exact rtV C0 hw h dX5_walk_151
      · have h := h.2 c39
        refine lv_aload_n hx hb dX5_walk_42 rfl (lv_at hl 0 rfl) ?_
        refine gf_X5_open C0 hw dX5_walk_43 ?_
        refine lv_iload_n hx hb dX5_walk_46 rfl (lv_at hl 1 rfl) ?_
        refine lv_iconst (v := 1) hx hb dX5_walk_47 (by decide) ?_
        refine lv_isub hx hb dX5_walk_48 ?_
        refine ld_C_opn C0 hw h.1 dX5_walk_49 ?_
        have h := h.2
        refine lv_topi (fun x3_1 ex3_1 => ?_)
        have h := h x3_1 ex3_1
        refine lv_istore_n (lv' := [(3, .int x3_1), (0, .ref (ad 14)), (1, .int x1), (2, .int x2)]) hx hb dX5_walk_50 rfl hl (by decide) rfl (fun ls hl => ?_)
        refine lv_aload_n hx hb dX5_walk_51 rfl (lv_at hl 1 rfl) ?_
        refine gf_X5_tried C0 hw dX5_walk_52 ?_
        refine lv_iload_n hx hb dX5_walk_55 rfl (lv_at hl 0 rfl) ?_
        refine ld_C_tried C0 hw h.1 dX5_walk_56 ?_
        have h := h.2
        refine lv_aload_n hx hb dX5_walk_57 rfl (lv_at hl 1 rfl) ?_
        refine gf_X5_nextCounts C0 hw dX5_walk_58 ?_
        refine lv_iload_n hx hb dX5_walk_61 rfl (lv_at hl 0 rfl) ?_
        refine ld_C_ncnt C0 hw h.1 dX5_walk_62 ?_
        have h := h.2
        refine lv_icmp_lt (tgt := 92) hx hb dX5_walk_63 (by decide) (fun c63 => ?_) (fun c63 => ?_)
        · have h := h.1 c63
          refine lv_aload_n hx hb dX5_walk_92 rfl (lv_at hl 1 rfl) ?_
          refine lv_iload_n hx hb dX5_walk_93 rfl (lv_at hl 0 rfl) ?_
          refine lv_aload_n hx hb dX5_walk_94 rfl (lv_at hl 1 rfl) ?_
          refine gf_X5_tried C0 hw dX5_walk_95 ?_
          refine lv_iload_n hx hb dX5_walk_98 rfl (lv_at hl 0 rfl) ?_
          refine ld_C_tried C0 hw h.1 dX5_walk_99 ?_
          have h := h.2
          refine clVI (As := [.int x3_1, .int (gC_tried S (x3_1).toNatClampNeg)]) (rest := []) (ci := 4) (k := 14) C0 (m_X5_nextOf l D ad cI cJ cZ S x3_1 (gC_tried S (x3_1).toNatClampNeg) _ h) cal_X5_nextOf kw_97 kw_96 kw_95 rfl rfl rfl rfl hl.1 rfl (Nat.le_of_ble_eq_true rfl) ⟨Nat.le_of_ble_eq_true rfl, Nat.le_of_ble_eq_true rfl⟩ rfl rfl dX5_walk_100 hw (fun r100 S100 H locs h hw => ?_)
          replace h := h
          refine lv_istore (lv' := [(4, .int r100), (3, .int x3_1), (0, .ref (ad 14)), (1, .int x1), (2, .int x2)]) hx hb dX5_walk_103 hl (by decide) rfl (fun ls hl => ?_)
          refine lv_aload_n hx hb dX5_walk_105 rfl (lv_at hl 2 rfl) ?_
          refine gf_X5_tried C0 hw dX5_walk_106 ?_
          refine lv_iload_n hx hb dX5_walk_109 rfl (lv_at hl 1 rfl) ?_
          refine lv_dup2_11 hx hb dX5_walk_110 rfl rfl ?_
          refine ld_C_tried C0 hw h.1 dX5_walk_111 ?_
          have h := h.2
          refine lv_iconst (v := 1) hx hb dX5_walk_112 (by decide) ?_
          refine lv_iadd hx hb dX5_walk_113 ?_
          refine st_C_tried C0 hw h.1 dX5_walk_114 (fun H locs hw => ?_)
          have h := h.2
          obtain ⟨S_2, eS_2⟩ : ∃ z, z = sC_tried S100 (upd (gC_tried S100) (x3_1).toNatClampNeg ((gC_tried S100 (x3_1).toNatClampNeg) + (1 : Int32))) := ⟨_, rfl⟩
          rw [← eS_2] at hw
          have h := h S_2 eS_2
          refine lv_aload_n hx hb dX5_walk_115 rfl (lv_at hl 2 rfl) ?_
          refine gf_X5_tried C0 hw dX5_walk_116 ?_
          refine lv_iload hx hb dX5_walk_119 (lv_at hl 0 rfl) ?_
          refine ld_C_tried C0 hw h.1 dX5_walk_121 ?_
          have h := h.2
          refine lv_iconst (v := -1) hx hb dX5_walk_122 (by decide) ?_
          refine lv_icmp_ne (tgt := 145) hx hb dX5_walk_123 (by decide) (fun c123 => ?_) (fun c123 => ?_)
          · have h := h.1 c123
            replace hl := lv_sub hl [2, 3, 4] rfl
            exact mb_X5_walk_145 C0 _ ih x1 x2 S_2 _ _ ls h hw hl
          · have h := h.2 c123
            refine lv_aload_n hx hb dX5_walk_126 rfl (lv_at hl 2 rfl) ?_
            refine gf_X5_tried C0 hw dX5_walk_127 ?_
            refine lv_iload hx hb dX5_walk_130 (lv_at hl 0 rfl) ?_
            refine lv_iconst (v := 0) hx hb dX5_walk_132 (by decide) ?_
            refine st_C_tried C0 hw h.1 dX5_walk_133 (fun H locs hw => ?_)
            have h := h.2
            obtain ⟨S_3, eS_3⟩ : ∃ z, z = sC_tried S_2 (upd (gC_tried S_2) (r100).toNatClampNeg (0 : Int32)) := ⟨_, rfl⟩
            rw [← eS_3] at hw
            have h := h S_3 eS_3
            refine lv_aload_n hx hb dX5_walk_134 rfl (lv_at hl 2 rfl) ?_
            refine gf_X5_open C0 hw dX5_walk_135 ?_
            refine lv_iload_n hx hb dX5_walk_138 rfl (lv_at hl 3 rfl) ?_
            refine lv_iload hx hb dX5_walk_139 (lv_at hl 0 rfl) ?_
            refine st_C_opn C0 hw h.1 dX5_walk_141 (fun H locs hw => ?_)
            have h := h.2
            obtain ⟨S_4, eS_4⟩ : ∃ z, z = sC_opn S_3 (upd (gC_opn S_3) (x1).toNatClampNeg r100) := ⟨_, rfl⟩
            rw [← eS_4] at hw
            have h := h S_4 eS_4
            obtain ⟨x1_5, ex1_5⟩ : ∃ y : Int32, y = x1 + (1 : Int32) := ⟨_, rfl⟩
            refine lv_iinc (v := x1_5) (lv' := [(1, .int x1_5), (4, .int r100), (3, .int x3_1), (0, .ref (ad 14)), (2, .int x2)]) hx hb dX5_walk_142 hl (k := 3) rfl (by rw [ex1_5]; rfl) (by decide) rfl (fun ls hl => ?_)
            have h := h x1_5 ex1_5
            replace hl := lv_sub hl [3, 0, 4] rfl
            exact mb_X5_walk_145 C0 _ ih x1_5 x2 S_4 _ _ ls h hw hl
        · have h := h.2 c63
          refine lv_aload_n hx hb dX5_walk_66 rfl (lv_at hl 1 rfl) ?_
          refine gf_X5_order C0 hw dX5_walk_67 ?_
          refine lv_aload_n hx hb dX5_walk_70 rfl (lv_at hl 1 rfl) ?_
          refine gf_X5_reached C0 hw dX5_walk_71 ?_
          refine lv_iload_n hx hb dX5_walk_74 rfl (lv_at hl 0 rfl) ?_
          refine st_C_order C0 hw h.1 dX5_walk_75 (fun H locs hw => ?_)
          have h := h.2
          obtain ⟨S_6, eS_6⟩ : ∃ z, z = sC_order S (upd (gC_order S) (gC_reached S).toNatClampNeg x3_1) := ⟨_, rfl⟩
          rw [← eS_6] at hw
          have h := h S_6 eS_6
          refine lv_aload_n hx hb dX5_walk_76 rfl (lv_at hl 1 rfl) ?_
          refine lv_dup hx hb dX5_walk_77 rfl ?_
          refine gf_X5_reached C0 hw dX5_walk_78 ?_
          refine lv_iconst (v := 1) hx hb dX5_walk_81 (by decide) ?_
          refine lv_iadd hx hb dX5_walk_82 ?_
          refine pf_X5_reached C0 hw dX5_walk_83 (fun H locs hw => ?_)
          obtain ⟨S_7, eS_7⟩ : ∃ z, z = sC_reached S_6 ((gC_reached S_6) + (1 : Int32)) := ⟨_, rfl⟩
          rw [← eS_7] at hw
          have h := h S_7 eS_7
          obtain ⟨x1_8, ex1_8⟩ : ∃ y : Int32, y = x1 + (-1 : Int32) := ⟨_, rfl⟩
          refine lv_iinc (v := x1_8) (lv' := [(1, .int x1_8), (3, .int x3_1), (0, .ref (ad 14)), (2, .int x2)]) hx hb dX5_walk_86 hl (k := 2) rfl (by rw [ex1_8]; rfl) (by decide) rfl (fun ls hl => ?_)
          have h := h x1_8 ex1_8
          refine lv_goto (tgt := 145) hx hb dX5_walk_89 (by decide) ?_
          replace hl := lv_sub hl [2, 0, 3] rfl
          exact mb_X5_walk_145 C0 _ ih x1_8 x2 S_7 _ _ ls h hw hl
set_option maxHeartbeats 4000000 in
set_option maxRecDepth 100000 in
theorem m_X5_walk (l : Launch) (D : va_G) (ad : Nat → Nat) (cI cJ cZ : ClassId) (S : CS)  (post : CS → Prop) (h : wp_X5_walk S  post) : CV (WC ad cI cJ cZ) D cI cJ cZ l yX5_walk (.code yX5_walk cX5_walk 5 none :: gt) rm_X5_walk S [.ref (ad 14)] post := by
  refine enV (by decide) (Nat.le_of_ble_eq_true rfl) ?_
  intro p e s m below meth c A ls C0 hw hl
  have C0 : Cx p s m _ meth c cX5_walk 5 RX5 none D cI cJ cZ A := C0
  have hl : lv_has ls 5 [(0, .ref (ad 14))] := hl
  have hx := C0.1
  have hb := C0.2.1
  unfold wp_X5_walk at h
  refine lv_aload_n hx hb dX5_walk_0 rfl (lv_at hl 0 rfl) ?_
  refine gf_X5_tried C0 hw dX5_walk_1 ?_
  refine lv_iconst (v := -1) hx hb dX5_walk_4 (by decide) ?_
  refine fl_C_tried (index := 34) C0 kw_107 hl.1 rfl (Nat.le_of_ble_eq_true rfl) ⟨Nat.le_of_ble_eq_true rfl, Nat.le_of_ble_eq_true rfl⟩ dX5_walk_5 hw (fun H locs hw => ?_)
  obtain ⟨S_1, eS_1⟩ : ∃ z, z = sC_tried S (fl_I 150 (-1 : Int32) (gC_tried S)) := ⟨_, rfl⟩
  rw [← eS_1] at hw
  have h := h S_1 eS_1
  refine lv_aload_n hx hb dX5_walk_8 rfl (lv_at hl 0 rfl) ?_
  refine lv_iconst (v := 0) hx hb dX5_walk_9 (by decide) ?_
  refine pf_X5_reached C0 hw dX5_walk_10 (fun H locs hw => ?_)
  obtain ⟨S_2, eS_2⟩ : ∃ z, z = sC_reached S_1 (0 : Int32) := ⟨_, rfl⟩
  rw [← eS_2] at hw
  have h := h S_2 eS_2
  refine lv_aload_n hx hb dX5_walk_13 rfl (lv_at hl 0 rfl) ?_
  refine gf_X5_open C0 hw dX5_walk_14 ?_
  refine lv_iconst (v := 0) hx hb dX5_walk_17 (by decide) ?_
  refine lv_iconst (v := 0) hx hb dX5_walk_18 (by decide) ?_
  refine st_C_opn C0 hw h.1 dX5_walk_19 (fun H locs hw => ?_)
  have h := h.2
  obtain ⟨S_3, eS_3⟩ : ∃ z, z = sC_opn S_2 (upd (gC_opn S_2) ((0 : Int32)).toNatClampNeg (0 : Int32)) := ⟨_, rfl⟩
  rw [← eS_3] at hw
  have h := h S_3 eS_3
  refine lv_aload_n hx hb dX5_walk_20 rfl (lv_at hl 0 rfl) ?_
  refine gf_X5_tried C0 hw dX5_walk_21 ?_
  refine lv_iconst (v := 0) hx hb dX5_walk_24 (by decide) ?_
  refine lv_iconst (v := 0) hx hb dX5_walk_25 (by decide) ?_
  refine st_C_tried C0 hw h.1 dX5_walk_26 (fun H locs hw => ?_)
  have h := h.2
  obtain ⟨S_4, eS_4⟩ : ∃ z, z = sC_tried S_3 (upd (gC_tried S_3) ((0 : Int32)).toNatClampNeg (0 : Int32)) := ⟨_, rfl⟩
  rw [← eS_4] at hw
  have h := h S_4 eS_4
  refine lv_iconst (v := 1) hx hb dX5_walk_27 (by decide) ?_
  refine lv_istore_n (lv' := [(1, .int (1 : Int32)), (0, .ref (ad 14))]) hx hb dX5_walk_28 rfl hl (by decide) rfl (fun ls hl => ?_)
  refine lv_iconst (v := 0) hx hb dX5_walk_29 (by decide) ?_
  refine lv_istore_n (lv' := [(2, .int (0 : Int32)), (1, .int (1 : Int32)), (0, .ref (ad 14))]) hx hb dX5_walk_30 rfl hl (by decide) rfl (fun ls hl => ?_)
  replace hl := lv_sub hl [2, 1, 0] rfl
  obtain ⟨n, h⟩ := h
  exact mb_X5_walk_31 C0 n (1 : Int32) (0 : Int32) S_4 _ _ ls h hw hl
abbrev rm_X4_begun : Room := { frames := 0, cells := 0, slots := 0, locals := 0 }
set_option maxHeartbeats 4000000 in
set_option maxRecDepth 100000 in
theorem m_X4_begun (l : Launch) (D : va_G) (ad : Nat → Nat) (cI cJ cZ : ClassId) (S : CS)  (post : Int64 → CS → Prop) (h : wp_X4_begun S  post) : CL (WC ad cI cJ cZ) D cI cJ cZ l yX4_begun (.code yX4_begun cX4_begun 1 (some .long) :: gt) rm_X4_begun S [.ref (ad 1)] post := by
  refine enL (by decide) (Nat.le_of_ble_eq_true rfl) ?_
  intro p e s m below meth c A ls C0 hw hl
  have C0 : Cx p s m _ meth c cX4_begun 1 RX4 (some .long) D cI cJ cZ A := C0
  have hl : lv_has ls 1 [(0, .ref (ad 1))] := hl
  have hx := C0.1
  have hb := C0.2.1
  unfold wp_X4_begun at h
  refine lv_aload_n hx hb dX4_begun_0 rfl (lv_at hl 0 rfl) ?_
  refine gf_X4_begun C0 hw dX4_begun_1 ?_
  exact rtL C0 hw h dX4_begun_4
abbrev rm_X5_size : Room := { frames := 0, cells := 0, slots := 0, locals := 0 }
set_option maxHeartbeats 4000000 in
set_option maxRecDepth 100000 in
theorem m_X5_size (l : Launch) (D : va_G) (ad : Nat → Nat) (cI cJ cZ : ClassId) (S : CS)  (post : Int32 → CS → Prop) (h : wp_X5_size S  post) : CI (WC ad cI cJ cZ) D cI cJ cZ l yX5_size (.code yX5_size cX5_size 1 (some .int) :: gt) rm_X5_size S [.ref (ad 14)] post := by
  refine enI (by decide) (Nat.le_of_ble_eq_true rfl) ?_
  intro p e s m below meth c A ls C0 hw hl
  have C0 : Cx p s m _ meth c cX5_size 1 RX5 (some .int) D cI cJ cZ A := C0
  have hl : lv_has ls 1 [(0, .ref (ad 14))] := hl
  have hx := C0.1
  have hb := C0.2.1
  unfold wp_X5_size at h
  refine lv_aload_n hx hb dX5_size_0 rfl (lv_at hl 0 rfl) ?_
  refine gf_X5_reached C0 hw dX5_size_1 ?_
  exact rtI C0 hw h dX5_size_4
abbrev rm_X5_fromTheBeginning : Room := { frames := 0, cells := 0, slots := 0, locals := 0 }
set_option maxHeartbeats 4000000 in
set_option maxRecDepth 100000 in
theorem m_X5_fromTheBeginning (l : Launch) (D : va_G) (ad : Nat → Nat) (cI cJ cZ : ClassId) (S : CS) (x1 : Int32) (post : Int32 → CS → Prop) (h : wp_X5_fromTheBeginning S x1 post) : CI (WC ad cI cJ cZ) D cI cJ cZ l yX5_fromTheBeginning (.code yX5_fromTheBeginning cX5_fromTheBeginning 2 (some .int) :: gt) rm_X5_fromTheBeginning S [.ref (ad 14), .int x1] post := by
  refine enI (by decide) (Nat.le_of_ble_eq_true rfl) ?_
  intro p e s m below meth c A ls C0 hw hl
  have C0 : Cx p s m _ meth c cX5_fromTheBeginning 2 RX5 (some .int) D cI cJ cZ A := C0
  have hl : lv_has ls 2 [(0, .ref (ad 14)), (1, .int x1)] := hl
  have hx := C0.1
  have hb := C0.2.1
  unfold wp_X5_fromTheBeginning at h
  refine lv_aload_n hx hb dX5_fromTheBeginning_0 rfl (lv_at hl 0 rfl) ?_
  refine gf_X5_order C0 hw dX5_fromTheBeginning_1 ?_
  refine lv_aload_n hx hb dX5_fromTheBeginning_4 rfl (lv_at hl 0 rfl) ?_
  refine gf_X5_reached C0 hw dX5_fromTheBeginning_5 ?_
  refine lv_iconst (v := 1) hx hb dX5_fromTheBeginning_8 (by decide) ?_
  refine lv_isub hx hb dX5_fromTheBeginning_9 ?_
  refine lv_iload_n hx hb dX5_fromTheBeginning_10 rfl (lv_at hl 1 rfl) ?_
  refine lv_isub hx hb dX5_fromTheBeginning_11 ?_
  refine ld_C_order C0 hw h.1 dX5_fromTheBeginning_12 ?_
  have h := h.2
  exact rtI C0 hw h dX5_fromTheBeginning_13
abbrev rm_X5_nextCount : Room := { frames := 0, cells := 0, slots := 0, locals := 0 }
set_option maxHeartbeats 4000000 in
set_option maxRecDepth 100000 in
theorem m_X5_nextCount (l : Launch) (D : va_G) (ad : Nat → Nat) (cI cJ cZ : ClassId) (S : CS) (x1 : Int32) (post : Int32 → CS → Prop) (h : wp_X5_nextCount S x1 post) : CI (WC ad cI cJ cZ) D cI cJ cZ l yX5_nextCount (.code yX5_nextCount cX5_nextCount 2 (some .int) :: gt) rm_X5_nextCount S [.ref (ad 14), .int x1] post := by
  refine enI (by decide) (Nat.le_of_ble_eq_true rfl) ?_
  intro p e s m below meth c A ls C0 hw hl
  have C0 : Cx p s m _ meth c cX5_nextCount 2 RX5 (some .int) D cI cJ cZ A := C0
  have hl : lv_has ls 2 [(0, .ref (ad 14)), (1, .int x1)] := hl
  have hx := C0.1
  have hb := C0.2.1
  unfold wp_X5_nextCount at h
  refine lv_aload_n hx hb dX5_nextCount_0 rfl (lv_at hl 0 rfl) ?_
  refine gf_X5_nextCounts C0 hw dX5_nextCount_1 ?_
  refine lv_iload_n hx hb dX5_nextCount_4 rfl (lv_at hl 1 rfl) ?_
  refine ld_C_ncnt C0 hw h.1 dX5_nextCount_5 ?_
  have h := h.2
  exact rtI C0 hw h dX5_nextCount_6
abbrev rm_X0_takenAt : Room := { frames := 0, cells := 0, slots := 0, locals := 0 }
set_option maxHeartbeats 4000000 in
set_option maxRecDepth 100000 in
theorem m_X0_takenAt (l : Launch) (D : va_G) (ad : Nat → Nat) (cI cJ cZ : ClassId) (S : CS) (x1 : Int32) (post : Int64 → CS → Prop) (h : wp_X0_takenAt S x1 post) : CL (WC ad cI cJ cZ) D cI cJ cZ l yX0_takenAt (.code yX0_takenAt cX0_takenAt 2 (some .long) :: gt) rm_X0_takenAt S [.ref (ad 4), .int x1] post := by
  refine enL (by decide) (Nat.le_of_ble_eq_true rfl) ?_
  intro p e s m below meth c A ls C0 hw hl
  have C0 : Cx p s m _ meth c cX0_takenAt 2 RX0 (some .long) D cI cJ cZ A := C0
  have hl : lv_has ls 2 [(0, .ref (ad 4)), (1, .int x1)] := hl
  have hx := C0.1
  have hb := C0.2.1
  unfold wp_X0_takenAt at h
  refine lv_aload_n hx hb dX0_takenAt_0 rfl (lv_at hl 0 rfl) ?_
  refine gf_X0_taken C0 hw dX0_takenAt_1 ?_
  refine lv_iload_n hx hb dX0_takenAt_4 rfl (lv_at hl 1 rfl) ?_
  refine ld_C_taken C0 hw h.1 dX0_takenAt_5 ?_
  have h := h.2
  exact rtL C0 hw h dX0_takenAt_6
abbrev rm_X0_givenAt : Room := { frames := 0, cells := 0, slots := 0, locals := 0 }
set_option maxHeartbeats 4000000 in
set_option maxRecDepth 100000 in
theorem m_X0_givenAt (l : Launch) (D : va_G) (ad : Nat → Nat) (cI cJ cZ : ClassId) (S : CS) (x1 : Int32) (post : Int64 → CS → Prop) (h : wp_X0_givenAt S x1 post) : CL (WC ad cI cJ cZ) D cI cJ cZ l yX0_givenAt (.code yX0_givenAt cX0_givenAt 2 (some .long) :: gt) rm_X0_givenAt S [.ref (ad 4), .int x1] post := by
  refine enL (by decide) (Nat.le_of_ble_eq_true rfl) ?_
  intro p e s m below meth c A ls C0 hw hl
  have C0 : Cx p s m _ meth c cX0_givenAt 2 RX0 (some .long) D cI cJ cZ A := C0
  have hl : lv_has ls 2 [(0, .ref (ad 4)), (1, .int x1)] := hl
  have hx := C0.1
  have hb := C0.2.1
  unfold wp_X0_givenAt at h
  refine lv_aload_n hx hb dX0_givenAt_0 rfl (lv_at hl 0 rfl) ?_
  refine gf_X0_given C0 hw dX0_givenAt_1 ?_
  refine lv_iload_n hx hb dX0_givenAt_4 rfl (lv_at hl 1 rfl) ?_
  refine ld_C_given C0 hw h.1 dX0_givenAt_5 ?_
  have h := h.2
  exact rtL C0 hw h dX0_givenAt_6
abbrev rm_X5_comeTo : Room := { frames := 0, cells := 0, slots := 0, locals := 0 }
set_option maxHeartbeats 4000000 in
set_option maxRecDepth 100000 in
theorem m_X5_comeTo (l : Launch) (D : va_G) (ad : Nat → Nat) (cI cJ cZ : ClassId) (S : CS) (x1 : Int32) (post : Int32 → CS → Prop) (h : wp_X5_comeTo S x1 post) : CI (WC ad cI cJ cZ) D cI cJ cZ l yX5_comeTo (.code yX5_comeTo cX5_comeTo 2 (some .boolean) :: gt) rm_X5_comeTo S [.ref (ad 14), .int x1] post := by
  refine enI (by decide) (Nat.le_of_ble_eq_true rfl) ?_
  intro p e s m below meth c A ls C0 hw hl
  have C0 : Cx p s m _ meth c cX5_comeTo 2 RX5 (some .boolean) D cI cJ cZ A := C0
  have hl : lv_has ls 2 [(0, .ref (ad 14)), (1, .int x1)] := hl
  have hx := C0.1
  have hb := C0.2.1
  unfold wp_X5_comeTo at h
  refine lv_aload_n hx hb dX5_comeTo_0 rfl (lv_at hl 0 rfl) ?_
  refine gf_X5_tried C0 hw dX5_comeTo_1 ?_
  refine lv_iload_n hx hb dX5_comeTo_4 rfl (lv_at hl 1 rfl) ?_
  refine ld_C_tried C0 hw h.1 dX5_comeTo_5 ?_
  have h := h.2
  refine lv_iconst (v := -1) hx hb dX5_comeTo_6 (by decide) ?_
  refine lv_icmp_eq (tgt := 14) hx hb dX5_comeTo_7 (by decide) (fun c7 => ?_) (fun c7 => ?_)
  · have h := h.1 c7
    refine lv_iconst (v := 0) hx hb dX5_comeTo_14 (by decide) ?_
    exact rtZ C0 hw rfl h dX5_comeTo_15
  · have h := h.2 c7
    refine lv_iconst (v := 1) hx hb dX5_comeTo_10 (by decide) ?_
    refine lv_goto (tgt := 15) hx hb dX5_comeTo_11 (by decide) ?_
    exact rtZ C0 hw rfl h dX5_comeTo_15
abbrev rm_X0_wantedAt : Room := { frames := 0, cells := 0, slots := 0, locals := 0 }
set_option maxHeartbeats 4000000 in
set_option maxRecDepth 100000 in
theorem m_X0_wantedAt (l : Launch) (D : va_G) (ad : Nat → Nat) (cI cJ cZ : ClassId) (S : CS) (x1 : Int32) (post : Int64 → CS → Prop) (h : wp_X0_wantedAt S x1 post) : CL (WC ad cI cJ cZ) D cI cJ cZ l yX0_wantedAt (.code yX0_wantedAt cX0_wantedAt 2 (some .long) :: gt) rm_X0_wantedAt S [.ref (ad 4), .int x1] post := by
  refine enL (by decide) (Nat.le_of_ble_eq_true rfl) ?_
  intro p e s m below meth c A ls C0 hw hl
  have C0 : Cx p s m _ meth c cX0_wantedAt 2 RX0 (some .long) D cI cJ cZ A := C0
  have hl : lv_has ls 2 [(0, .ref (ad 4)), (1, .int x1)] := hl
  have hx := C0.1
  have hb := C0.2.1
  unfold wp_X0_wantedAt at h
  refine lv_aload_n hx hb dX0_wantedAt_0 rfl (lv_at hl 0 rfl) ?_
  refine gf_X0_wanted C0 hw dX0_wantedAt_1 ?_
  refine lv_iload_n hx hb dX0_wantedAt_4 rfl (lv_at hl 1 rfl) ?_
  refine ld_C_wanted C0 hw h.1 dX0_wantedAt_5 ?_
  have h := h.2
  exact rtL C0 hw h dX0_wantedAt_6
abbrev rm_X0_makesLoan : Room := { frames := 2, cells := 0, slots := 0, locals := 42 }
set_option maxHeartbeats 4000000 in
set_option maxRecDepth 100000 in
theorem m_X0_makesLoan (l : Launch) (D : va_G) (ad : Nat → Nat) (cI cJ cZ : ClassId) (S : CS) (x1 : Int32) (post : Int32 → CS → Prop) (h : wp_X0_makesLoan S x1 post) : CI (WC ad cI cJ cZ) D cI cJ cZ l yX0_makesLoan (.code yX0_makesLoan cX0_makesLoan 2 (some .boolean) :: gt) rm_X0_makesLoan S [.ref (ad 4), .int x1] post := by
  refine enI (by decide) (Nat.le_of_ble_eq_true rfl) ?_
  intro p e s m below meth c A ls C0 hw hl
  have C0 : Cx p s m _ meth c cX0_makesLoan 2 RX0 (some .boolean) D cI cJ cZ A := C0
  have hl : lv_has ls 2 [(0, .ref (ad 4)), (1, .int x1)] := hl
  have hx := C0.1
  have hb := C0.2.1
  unfold wp_X0_makesLoan at h
  refine lv_aload_n hx hb dX0_makesLoan_0 rfl (lv_at hl 0 rfl) ?_
  refine gf_X0_kinds C0 hw dX0_makesLoan_1 ?_
  refine lv_iload_n hx hb dX0_makesLoan_4 rfl (lv_at hl 1 rfl) ?_
  refine ld_C_kinds C0 hw h.1 dX0_makesLoan_5 ?_
  have h := h.2
  refine lv_bipush (v := 7) hx hb dX0_makesLoan_6 (by decide) ?_
  refine lv_icmp_ne (tgt := 31) hx hb dX0_makesLoan_8 (by decide) (fun c8 => ?_) (fun c8 => ?_)
  · have h := h.1 c8
    refine lv_iconst (v := 0) hx hb dX0_makesLoan_31 (by decide) ?_
    exact rtZ C0 hw rfl h dX0_makesLoan_32
  · have h := h.2 c8
    refine lv_aload_n hx hb dX0_makesLoan_11 rfl (lv_at hl 0 rfl) ?_
    refine gf_X0_variables C0 hw dX0_makesLoan_12 ?_
    refine lv_aload_n hx hb dX0_makesLoan_15 rfl (lv_at hl 0 rfl) ?_
    refine gf_X0_places C0 hw dX0_makesLoan_16 ?_
    refine lv_iload_n hx hb dX0_makesLoan_19 rfl (lv_at hl 1 rfl) ?_
    refine ld_C_places C0 hw h.1 dX0_makesLoan_20 ?_
    have h := h.2
    refine clVI (As := [.int (gC_places S (x1).toNatClampNeg)]) (rest := []) (ci := 3) (k := 1) C0 (m_X4_isShared l D ad cI cJ cZ S (gC_places S (x1).toNatClampNeg) _ h) cal_X4_isShared kw_87 kw_86 kw_157 rfl rfl rfl rfl hl.1 rfl (Nat.le_of_ble_eq_true rfl) ⟨Nat.le_of_ble_eq_true rfl, Nat.le_of_ble_eq_true rfl⟩ rfl rfl dX0_makesLoan_21 hw (fun r21 S21 H locs h hw => ?_)
    replace h := h
    refine lv_if_ne (tgt := 31) hx hb dX0_makesLoan_24 (by decide) (fun c24 => ?_) (fun c24 => ?_)
    · have h := h.1 c24
      refine lv_iconst (v := 0) hx hb dX0_makesLoan_31 (by decide) ?_
      exact rtZ C0 hw rfl h dX0_makesLoan_32
    · have h := h.2 c24
      refine lv_iconst (v := 1) hx hb dX0_makesLoan_27 (by decide) ?_
      refine lv_goto (tgt := 32) hx hb dX0_makesLoan_28 (by decide) ?_
      exact rtZ C0 hw rfl h dX0_makesLoan_32
abbrev rm_X0_variableAt : Room := { frames := 0, cells := 0, slots := 0, locals := 0 }
set_option maxHeartbeats 4000000 in
set_option maxRecDepth 100000 in
theorem m_X0_variableAt (l : Launch) (D : va_G) (ad : Nat → Nat) (cI cJ cZ : ClassId) (S : CS) (x1 : Int32) (post : Int32 → CS → Prop) (h : wp_X0_variableAt S x1 post) : CI (WC ad cI cJ cZ) D cI cJ cZ l yX0_variableAt (.code yX0_variableAt cX0_variableAt 2 (some .int) :: gt) rm_X0_variableAt S [.ref (ad 4), .int x1] post := by
  refine enI (by decide) (Nat.le_of_ble_eq_true rfl) ?_
  intro p e s m below meth c A ls C0 hw hl
  have C0 : Cx p s m _ meth c cX0_variableAt 2 RX0 (some .int) D cI cJ cZ A := C0
  have hl : lv_has ls 2 [(0, .ref (ad 4)), (1, .int x1)] := hl
  have hx := C0.1
  have hb := C0.2.1
  unfold wp_X0_variableAt at h
  refine lv_aload_n hx hb dX0_variableAt_0 rfl (lv_at hl 0 rfl) ?_
  refine gf_X0_places C0 hw dX0_variableAt_1 ?_
  refine lv_iload_n hx hb dX0_variableAt_4 rfl (lv_at hl 1 rfl) ?_
  refine ld_C_places C0 hw h.1 dX0_variableAt_5 ?_
  have h := h.2
  exact rtI C0 hw h dX0_variableAt_6
abbrev rm_X0_makesSoleLoan : Room := { frames := 3, cells := 0, slots := 0, locals := 63 }
set_option maxHeartbeats 4000000 in
set_option maxRecDepth 100000 in
theorem m_X0_makesSoleLoan (l : Launch) (D : va_G) (ad : Nat → Nat) (cI cJ cZ : ClassId) (S : CS) (x1 : Int32) (post : Int32 → CS → Prop) (h : wp_X0_makesSoleLoan S x1 post) : CI (WC ad cI cJ cZ) D cI cJ cZ l yX0_makesSoleLoan (.code yX0_makesSoleLoan cX0_makesSoleLoan 2 (some .boolean) :: gt) rm_X0_makesSoleLoan S [.ref (ad 4), .int x1] post := by
  refine enI (by decide) (Nat.le_of_ble_eq_true rfl) ?_
  intro p e s m below meth c A ls C0 hw hl
  have C0 : Cx p s m _ meth c cX0_makesSoleLoan 2 RX0 (some .boolean) D cI cJ cZ A := C0
  have hl : lv_has ls 2 [(0, .ref (ad 4)), (1, .int x1)] := hl
  have hx := C0.1
  have hb := C0.2.1
  unfold wp_X0_makesSoleLoan at h
  refine lv_aload_n hx hb dX0_makesSoleLoan_0 rfl (lv_at hl 0 rfl) ?_
  refine lv_iload_n hx hb dX0_makesSoleLoan_1 rfl (lv_at hl 1 rfl) ?_
  refine clVI (As := [.int x1]) (rest := []) (ci := 0) (k := 4) C0 (m_X0_makesLoan l D ad cI cJ cZ S x1 _ h) cal_X0_makesLoan kw_160 kw_159 kw_164 rfl rfl rfl rfl hl.1 rfl (Nat.le_of_ble_eq_true rfl) ⟨Nat.le_of_ble_eq_true rfl, Nat.le_of_ble_eq_true rfl⟩ rfl rfl dX0_makesSoleLoan_2 hw (fun r2 S2 H locs h hw => ?_)
  replace h := h
  refine lv_if_eq (tgt := 28) hx hb dX0_makesSoleLoan_5 (by decide) (fun c5 => ?_) (fun c5 => ?_)
  · have h := h.1 c5
    refine lv_iconst (v := 0) hx hb dX0_makesSoleLoan_28 (by decide) ?_
    exact rtZ C0 hw rfl h dX0_makesSoleLoan_29
  · have h := h.2 c5
    refine lv_aload_n hx hb dX0_makesSoleLoan_8 rfl (lv_at hl 0 rfl) ?_
    refine gf_X0_variables C0 hw dX0_makesSoleLoan_9 ?_
    refine lv_aload_n hx hb dX0_makesSoleLoan_12 rfl (lv_at hl 0 rfl) ?_
    refine gf_X0_receivers C0 hw dX0_makesSoleLoan_13 ?_
    refine lv_iload_n hx hb dX0_makesSoleLoan_16 rfl (lv_at hl 1 rfl) ?_
    refine ld_C_recvs C0 hw h.1 dX0_makesSoleLoan_17 ?_
    have h := h.2
    refine clVI (As := [.int (gC_recvs S2 (x1).toNatClampNeg)]) (rest := []) (ci := 3) (k := 1) C0 (m_X4_isSole l D ad cI cJ cZ S2 (gC_recvs S2 (x1).toNatClampNeg) _ h) cal_X4_isSole kw_43 kw_42 kw_41 rfl rfl rfl rfl hl.1 rfl (Nat.le_of_ble_eq_true rfl) ⟨Nat.le_of_ble_eq_true rfl, Nat.le_of_ble_eq_true rfl⟩ rfl rfl dX0_makesSoleLoan_18 hw (fun r18 S18 H locs h hw => ?_)
    replace h := h
    refine lv_if_eq (tgt := 28) hx hb dX0_makesSoleLoan_21 (by decide) (fun c21 => ?_) (fun c21 => ?_)
    · have h := h.1 c21
      refine lv_iconst (v := 0) hx hb dX0_makesSoleLoan_28 (by decide) ?_
      exact rtZ C0 hw rfl h dX0_makesSoleLoan_29
    · have h := h.2 c21
      refine lv_iconst (v := 1) hx hb dX0_makesSoleLoan_24 (by decide) ?_
      refine lv_goto (tgt := 29) hx hb dX0_makesSoleLoan_25 (by decide) ?_
      exact rtZ C0 hw rfl h dX0_makesSoleLoan_29
abbrev rm_X4_size : Room := { frames := 0, cells := 0, slots := 0, locals := 0 }
set_option maxHeartbeats 4000000 in
set_option maxRecDepth 100000 in
theorem m_X4_size (l : Launch) (D : va_G) (ad : Nat → Nat) (cI cJ cZ : ClassId) (S : CS)  (post : Int32 → CS → Prop) (h : wp_X4_size S  post) : CI (WC ad cI cJ cZ) D cI cJ cZ l yX4_size (.code yX4_size cX4_size 1 (some .int) :: gt) rm_X4_size S [.ref (ad 1)] post := by
  refine enI (by decide) (Nat.le_of_ble_eq_true rfl) ?_
  intro p e s m below meth c A ls C0 hw hl
  have C0 : Cx p s m _ meth c cX4_size 1 RX4 (some .int) D cI cJ cZ A := C0
  have hl : lv_has ls 1 [(0, .ref (ad 1))] := hl
  have hx := C0.1
  have hb := C0.2.1
  unfold wp_X4_size at h
  refine lv_aload_n hx hb dX4_size_0 rfl (lv_at hl 0 rfl) ?_
  refine gf_X4_made C0 hw dX4_size_1 ?_
  exact rtI C0 hw h dX4_size_4
abbrev rm_X0_renewedAt : Room := { frames := 0, cells := 0, slots := 0, locals := 0 }
set_option maxHeartbeats 4000000 in
set_option maxRecDepth 100000 in
theorem m_X0_renewedAt (l : Launch) (D : va_G) (ad : Nat → Nat) (cI cJ cZ : ClassId) (S : CS) (x1 : Int32) (post : Int32 → CS → Prop) (h : wp_X0_renewedAt S x1 post) : CI (WC ad cI cJ cZ) D cI cJ cZ l yX0_renewedAt (.code yX0_renewedAt cX0_renewedAt 2 (some .int) :: gt) rm_X0_renewedAt S [.ref (ad 4), .int x1] post := by
  refine enI (by decide) (Nat.le_of_ble_eq_true rfl) ?_
  intro p e s m below meth c A ls C0 hw hl
  have C0 : Cx p s m _ meth c cX0_renewedAt 2 RX0 (some .int) D cI cJ cZ A := C0
  have hl : lv_has ls 2 [(0, .ref (ad 4)), (1, .int x1)] := hl
  have hx := C0.1
  have hb := C0.2.1
  unfold wp_X0_renewedAt at h
  refine lv_aload_n hx hb dX0_renewedAt_0 rfl (lv_at hl 0 rfl) ?_
  refine gf_X0_renewedReferences C0 hw dX0_renewedAt_1 ?_
  refine lv_iload_n hx hb dX0_renewedAt_4 rfl (lv_at hl 1 rfl) ?_
  refine ld_C_renR C0 hw h.1 dX0_renewedAt_5 ?_
  have h := h.2
  exact rtI C0 hw h dX0_renewedAt_6
abbrev rm_X0_usedAt : Room := { frames := 0, cells := 0, slots := 0, locals := 0 }
set_option maxHeartbeats 4000000 in
set_option maxRecDepth 100000 in
theorem m_X0_usedAt (l : Launch) (D : va_G) (ad : Nat → Nat) (cI cJ cZ : ClassId) (S : CS) (x1 : Int32) (post : Int32 → CS → Prop) (h : wp_X0_usedAt S x1 post) : CI (WC ad cI cJ cZ) D cI cJ cZ l yX0_usedAt (.code yX0_usedAt cX0_usedAt 2 (some .int) :: gt) rm_X0_usedAt S [.ref (ad 4), .int x1] post := by
  refine enI (by decide) (Nat.le_of_ble_eq_true rfl) ?_
  intro p e s m below meth c A ls C0 hw hl
  have C0 : Cx p s m _ meth c cX0_usedAt 2 RX0 (some .int) D cI cJ cZ A := C0
  have hl : lv_has ls 2 [(0, .ref (ad 4)), (1, .int x1)] := hl
  have hx := C0.1
  have hb := C0.2.1
  unfold wp_X0_usedAt at h
  refine lv_aload_n hx hb dX0_usedAt_0 rfl (lv_at hl 0 rfl) ?_
  refine gf_X0_usedReferences C0 hw dX0_usedAt_1 ?_
  refine lv_iload_n hx hb dX0_usedAt_4 rfl (lv_at hl 1 rfl) ?_
  refine ld_C_usedR C0 hw h.1 dX0_usedAt_5 ?_
  have h := h.2
  exact rtI C0 hw h dX0_usedAt_6
abbrev rm_X5_fromTheEnd : Room := { frames := 0, cells := 0, slots := 0, locals := 0 }
set_option maxHeartbeats 4000000 in
set_option maxRecDepth 100000 in
theorem m_X5_fromTheEnd (l : Launch) (D : va_G) (ad : Nat → Nat) (cI cJ cZ : ClassId) (S : CS) (x1 : Int32) (post : Int32 → CS → Prop) (h : wp_X5_fromTheEnd S x1 post) : CI (WC ad cI cJ cZ) D cI cJ cZ l yX5_fromTheEnd (.code yX5_fromTheEnd cX5_fromTheEnd 2 (some .int) :: gt) rm_X5_fromTheEnd S [.ref (ad 14), .int x1] post := by
  refine enI (by decide) (Nat.le_of_ble_eq_true rfl) ?_
  intro p e s m below meth c A ls C0 hw hl
  have C0 : Cx p s m _ meth c cX5_fromTheEnd 2 RX5 (some .int) D cI cJ cZ A := C0
  have hl : lv_has ls 2 [(0, .ref (ad 14)), (1, .int x1)] := hl
  have hx := C0.1
  have hb := C0.2.1
  unfold wp_X5_fromTheEnd at h
  refine lv_aload_n hx hb dX5_fromTheEnd_0 rfl (lv_at hl 0 rfl) ?_
  refine gf_X5_order C0 hw dX5_fromTheEnd_1 ?_
  refine lv_iload_n hx hb dX5_fromTheEnd_4 rfl (lv_at hl 1 rfl) ?_
  refine ld_C_order C0 hw h.1 dX5_fromTheEnd_5 ?_
  have h := h.2
  exact rtI C0 hw h dX5_fromTheEnd_6
abbrev rm_X0_pathAt : Room := { frames := 0, cells := 0, slots := 0, locals := 0 }
set_option maxHeartbeats 4000000 in
set_option maxRecDepth 100000 in
theorem m_X0_pathAt (l : Launch) (D : va_G) (ad : Nat → Nat) (cI cJ cZ : ClassId) (S : CS) (x1 : Int32) (post : Int32 → CS → Prop) (h : wp_X0_pathAt S x1 post) : CI (WC ad cI cJ cZ) D cI cJ cZ l yX0_pathAt (.code yX0_pathAt cX0_pathAt 2 (some .int) :: gt) rm_X0_pathAt S [.ref (ad 4), .int x1] post := by
  refine enI (by decide) (Nat.le_of_ble_eq_true rfl) ?_
  intro p e s m below meth c A ls C0 hw hl
  have C0 : Cx p s m _ meth c cX0_pathAt 2 RX0 (some .int) D cI cJ cZ A := C0
  have hl : lv_has ls 2 [(0, .ref (ad 4)), (1, .int x1)] := hl
  have hx := C0.1
  have hb := C0.2.1
  unfold wp_X0_pathAt at h
  refine lv_aload_n hx hb dX0_pathAt_0 rfl (lv_at hl 0 rfl) ?_
  refine gf_X0_paths C0 hw dX0_pathAt_1 ?_
  refine lv_iload_n hx hb dX0_pathAt_4 rfl (lv_at hl 1 rfl) ?_
  refine ld_C_paths C0 hw h.1 dX0_pathAt_5 ?_
  have h := h.2
  exact rtI C0 hw h dX0_pathAt_6
abbrev rm_X3_oneBeginsTheOther : Room := { frames := 1, cells := 0, slots := 0, locals := 20 }
set_option maxHeartbeats 4000000 in
set_option maxRecDepth 100000 in
theorem mb_X3_oneBeginsTheOther_7 {p : Program} {l : Launch} {e : Env} {s : State} {m : MethodId} {args : Array Value} {below : List Frame} {meth : Method} {c : Code} {D : va_G} {ad : Nat → Nat} {cI cJ cZ : ClassId} {A : Nat → Prop} {post : Int32 → CS → Prop} (C0 : Cx p s m args meth c cX3_oneBeginsTheOther 5 RX3 (some .boolean) D cI cJ cZ A) :
 ∀ (n : Nat) (x2 : Int32) (x3 : Int32) (x4 : Int32) (S : CS) (H : Heap) (locs : List Loc) (ls : Array Slot), wp_X3_oneBeginsTheOther_7 post n x2 x3 x4 S → Wd (WC ad cI cJ cZ) D A s.heap H locs S → lv_has ls 5 [(2, .int x2), (3, .int x3), (4, .int x4)] → W p l e rm_X3_oneBeginsTheOther s m args below meth c H locs 0 0 (QI (WC ad cI cJ cZ) D A s args below post) (F0 m 7 ls []) := by
  have hx := C0.1
  have hb := C0.2.1
  intro n
  induction n with
  | zero => intro x2 x3 x4 S H locs ls h; exact h.elim
  | succ n ih =>
    intro x2 x3 x4 S H locs ls h hw hl
    replace h : ws_X3_oneBeginsTheOther_7 (wp_X3_oneBeginsTheOther_7  post n)  post x2 x3 x4 S := h
    unfold ws_X3_oneBeginsTheOther_7 at h
    refine lv_iload hx hb dX3_oneBeginsTheOther_7 (lv_at hl 2 rfl) ?_
    refine lv_iconst (v := 4) hx hb dX3_oneBeginsTheOther_9 (by decide) ?_
    refine lv_icmp_ge (tgt := 50) hx hb dX3_oneBeginsTheOther_10 (by decide) (fun c10 => ?_) (fun c10 => ?_)
    · have h := h.1 c10
      refine lv_iconst (v := 1) hx hb dX3_oneBeginsTheOther_50 (by decide) ?_
      exact rtZ C0 hw rfl h dX3_oneBeginsTheOther_51
    · have h := h.2 c10
      refine lv_iload_n hx hb dX3_oneBeginsTheOther_13 rfl (lv_at hl 0 rfl) ?_
      refine lv_if_eq (tgt := 50) hx hb dX3_oneBeginsTheOther_14 (by decide) (fun c14 => ?_) (fun c14 => ?_)
      · have h := h.1 c14
        refine lv_iconst (v := 1) hx hb dX3_oneBeginsTheOther_50 (by decide) ?_
        exact rtZ C0 hw rfl h dX3_oneBeginsTheOther_51
      · have h := h.2 c14
        refine lv_iload_n hx hb dX3_oneBeginsTheOther_17 rfl (lv_at hl 1 rfl) ?_
        refine lv_if_eq (tgt := 50) hx hb dX3_oneBeginsTheOther_18 (by decide) (fun c18 => ?_) (fun c18 => ?_)
        · have h := h.1 c18
          refine lv_iconst (v := 1) hx hb dX3_oneBeginsTheOther_50 (by decide) ?_
          exact rtZ C0 hw rfl h dX3_oneBeginsTheOther_51
        · have h := h.2 c18
          refine lv_iload_n hx hb dX3_oneBeginsTheOther_21 rfl (lv_at hl 0 rfl) ?_
          refine clSI (As := [.int x2]) (rest := []) C0 (m_X3_firstDigit l D ad cI cJ cZ S x2 _ h) cal_X3_firstDigit kw_19 kw_73 rfl hl.1 rfl (Nat.le_of_ble_eq_true rfl) ⟨Nat.le_of_ble_eq_true rfl, Nat.le_of_ble_eq_true rfl⟩ rfl rfl dX3_oneBeginsTheOther_22 hw (fun r22 S22 H locs h hw => ?_)
          replace h := h
          refine lv_iload_n hx hb dX3_oneBeginsTheOther_25 rfl (lv_at hl 1 rfl) ?_
          refine clSI (As := [.int x3]) (rest := [.int r22]) C0 (m_X3_firstDigit l D ad cI cJ cZ S22 x3 _ h) cal_X3_firstDigit kw_19 kw_73 rfl hl.1 rfl (Nat.le_of_ble_eq_true rfl) ⟨Nat.le_of_ble_eq_true rfl, Nat.le_of_ble_eq_true rfl⟩ rfl rfl dX3_oneBeginsTheOther_26 hw (fun r26 S26 H locs h hw => ?_)
          replace h := h
          refine lv_icmp_eq (tgt := 34) hx hb dX3_oneBeginsTheOther_29 (by decide) (fun c29 => ?_) (fun c29 => ?_)
          · have h := h.1 c29
            refine lv_iload_n hx hb dX3_oneBeginsTheOther_34 rfl (lv_at hl 0 rfl) ?_
            refine clSI (As := [.int x2]) (rest := []) C0 (m_X3_behindFirst l D ad cI cJ cZ S26 x2 _ h) cal_X3_behindFirst kw_31 kw_74 rfl hl.1 rfl (Nat.le_of_ble_eq_true rfl) ⟨Nat.le_of_ble_eq_true rfl, Nat.le_of_ble_eq_true rfl⟩ rfl rfl dX3_oneBeginsTheOther_35 hw (fun r35 S35 H locs h hw => ?_)
            replace h := h
            refine lv_istore_n (lv' := [(2, .int r35), (3, .int x3), (4, .int x4)]) hx hb dX3_oneBeginsTheOther_38 rfl hl (by decide) rfl (fun ls hl => ?_)
            refine lv_iload_n hx hb dX3_oneBeginsTheOther_39 rfl (lv_at hl 1 rfl) ?_
            refine clSI (As := [.int x3]) (rest := []) C0 (m_X3_behindFirst l D ad cI cJ cZ S35 x3 _ h) cal_X3_behindFirst kw_31 kw_74 rfl hl.1 rfl (Nat.le_of_ble_eq_true rfl) ⟨Nat.le_of_ble_eq_true rfl, Nat.le_of_ble_eq_true rfl⟩ rfl rfl dX3_oneBeginsTheOther_40 hw (fun r40 S40 H locs h hw => ?_)
            replace h := h
            refine lv_istore_n (lv' := [(3, .int r40), (2, .int r35), (4, .int x4)]) hx hb dX3_oneBeginsTheOther_43 rfl hl (by decide) rfl (fun ls hl => ?_)
            obtain ⟨x4_1, ex4_1⟩ : ∃ y : Int32, y = x4 + (1 : Int32) := ⟨_, rfl⟩
            refine lv_iinc (v := x4_1) (lv' := [(4, .int x4_1), (3, .int r40), (2, .int r35)]) hx hb dX3_oneBeginsTheOther_44 hl (k := 2) rfl (by rw [ex4_1]; rfl) (by decide) rfl (fun ls hl => ?_)
            have h := h x4_1 ex4_1
            refine lv_goto (tgt := 7) hx hb dX3_oneBeginsTheOther_47 (by decide) ?_
            replace hl := lv_sub hl [2, 1, 0] rfl
            exact ih r35 r40 x4_1 S40 _ _ _ h hw hl
          · have h := h.2 c29
            refine lv_iconst (v := 0) hx hb dX3_oneBeginsTheOther_32 (by decide) ?_
            exact rtZ C0 hw rfl h dX3_oneBeginsTheOther_33
set_option maxHeartbeats 4000000 in
set_option maxRecDepth 100000 in
theorem m_X3_oneBeginsTheOther (l : Launch) (D : va_G) (ad : Nat → Nat) (cI cJ cZ : ClassId) (S : CS) (x0 : Int32) (x1 : Int32) (post : Int32 → CS → Prop) (h : wp_X3_oneBeginsTheOther S x0 x1 post) : CI (WC ad cI cJ cZ) D cI cJ cZ l yX3_oneBeginsTheOther (.code yX3_oneBeginsTheOther cX3_oneBeginsTheOther 5 (some .boolean) :: gt) rm_X3_oneBeginsTheOther S [.int x0, .int x1] post := by
  refine enI (by decide) (Nat.le_of_ble_eq_true rfl) ?_
  intro p e s m below meth c A ls C0 hw hl
  have C0 : Cx p s m _ meth c cX3_oneBeginsTheOther 5 RX3 (some .boolean) D cI cJ cZ A := C0
  have hl : lv_has ls 5 [(0, .int x0), (1, .int x1)] := hl
  have hx := C0.1
  have hb := C0.2.1
  unfold wp_X3_oneBeginsTheOther at h
  refine lv_iload_n hx hb dX3_oneBeginsTheOther_0 rfl (lv_at hl 0 rfl) ?_
  refine lv_istore_n (lv' := [(2, .int x0), (0, .int x0), (1, .int x1)]) hx hb dX3_oneBeginsTheOther_1 rfl hl (by decide) rfl (fun ls hl => ?_)
  refine lv_iload_n hx hb dX3_oneBeginsTheOther_2 rfl (lv_at hl 2 rfl) ?_
  refine lv_istore_n (lv' := [(3, .int x1), (2, .int x0), (0, .int x0), (1, .int x1)]) hx hb dX3_oneBeginsTheOther_3 rfl hl (by decide) rfl (fun ls hl => ?_)
  refine lv_iconst (v := 0) hx hb dX3_oneBeginsTheOther_4 (by decide) ?_
  refine lv_istore (lv' := [(4, .int (0 : Int32)), (3, .int x1), (2, .int x0), (0, .int x0), (1, .int x1)]) hx hb dX3_oneBeginsTheOther_5 hl (by decide) rfl (fun ls hl => ?_)
  replace hl := lv_sub hl [2, 1, 0] rfl
  obtain ⟨n, h⟩ := h
  exact mb_X3_oneBeginsTheOther_7 C0 n x0 x1 (0 : Int32) S _ _ ls h hw hl
abbrev rm_X0_canClash : Room := { frames := 2, cells := 0, slots := 0, locals := 42 }
set_option maxHeartbeats 4000000 in
set_option maxRecDepth 100000 in
theorem m_X0_canClash (l : Launch) (D : va_G) (ad : Nat → Nat) (cI cJ cZ : ClassId) (S : CS) (x1 : Int32) (post : Int32 → CS → Prop) (h : wp_X0_canClash S x1 post) : CI (WC ad cI cJ cZ) D cI cJ cZ l yX0_canClash (.code yX0_canClash cX0_canClash 2 (some .boolean) :: gt) rm_X0_canClash S [.ref (ad 4), .int x1] post := by
  refine enI (by decide) (Nat.le_of_ble_eq_true rfl) ?_
  intro p e s m below meth c A ls C0 hw hl
  have C0 : Cx p s m _ meth c cX0_canClash 2 RX0 (some .boolean) D cI cJ cZ A := C0
  have hl : lv_has ls 2 [(0, .ref (ad 4)), (1, .int x1)] := hl
  have hx := C0.1
  have hb := C0.2.1
  unfold wp_X0_canClash at h
  refine lv_aload_n hx hb dX0_canClash_0 rfl (lv_at hl 0 rfl) ?_
  refine gf_X0_kinds C0 hw dX0_canClash_1 ?_
  refine lv_iload_n hx hb dX0_canClash_4 rfl (lv_at hl 1 rfl) ?_
  refine ld_C_kinds C0 hw h.1 dX0_canClash_5 ?_
  have h := h.2
  refine lv_bipush (v := 6) hx hb dX0_canClash_6 (by decide) ?_
  refine lv_icmp_ne (tgt := 33) hx hb dX0_canClash_8 (by decide) (fun c8 => ?_) (fun c8 => ?_)
  · have h := h.1 c8
    refine lv_aload_n hx hb dX0_canClash_33 rfl (lv_at hl 0 rfl) ?_
    refine gf_X0_kinds C0 hw dX0_canClash_34 ?_
    refine lv_iload_n hx hb dX0_canClash_37 rfl (lv_at hl 1 rfl) ?_
    refine ld_C_kinds C0 hw h.1 dX0_canClash_38 ?_
    have h := h.2
    refine clSI (As := [.int (gC_kinds S (x1).toNatClampNeg)]) (rest := []) C0 (m_X0_isOnPlace l D ad cI cJ cZ S (gC_kinds S (x1).toNatClampNeg) _ h) cal_X0_isOnPlace kw_48 kw_47 rfl hl.1 rfl (Nat.le_of_ble_eq_true rfl) ⟨Nat.le_of_ble_eq_true rfl, Nat.le_of_ble_eq_true rfl⟩ rfl rfl dX0_canClash_39 hw (fun r39 S39 H locs h hw => ?_)
    replace h := h
    refine lv_if_ne (tgt := 56) hx hb dX0_canClash_42 (by decide) (fun c42 => ?_) (fun c42 => ?_)
    · have h := h.1 c42
      refine lv_iconst (v := 1) hx hb dX0_canClash_56 (by decide) ?_
      refine lv_goto (tgt := 61) hx hb dX0_canClash_57 (by decide) ?_
      exact rtZ C0 hw rfl h dX0_canClash_61
    · have h := h.2 c42
      refine lv_aload_n hx hb dX0_canClash_45 rfl (lv_at hl 0 rfl) ?_
      refine gf_X0_kinds C0 hw dX0_canClash_46 ?_
      refine lv_iload_n hx hb dX0_canClash_49 rfl (lv_at hl 1 rfl) ?_
      refine ld_C_kinds C0 hw h.1 dX0_canClash_50 ?_
      have h := h.2
      refine lv_bipush (v := 8) hx hb dX0_canClash_51 (by decide) ?_
      refine lv_icmp_ne (tgt := 60) hx hb dX0_canClash_53 (by decide) (fun c53 => ?_) (fun c53 => ?_)
      · have h := h.1 c53
        refine lv_iconst (v := 0) hx hb dX0_canClash_60 (by decide) ?_
        exact rtZ C0 hw rfl h dX0_canClash_61
      · have h := h.2 c53
        refine lv_iconst (v := 1) hx hb dX0_canClash_56 (by decide) ?_
        refine lv_goto (tgt := 61) hx hb dX0_canClash_57 (by decide) ?_
        exact rtZ C0 hw rfl h dX0_canClash_61
  · have h := h.2 c8
    refine lv_aload_n hx hb dX0_canClash_11 rfl (lv_at hl 0 rfl) ?_
    refine gf_X0_variables C0 hw dX0_canClash_12 ?_
    refine lv_aload_n hx hb dX0_canClash_15 rfl (lv_at hl 0 rfl) ?_
    refine gf_X0_places C0 hw dX0_canClash_16 ?_
    refine lv_iload_n hx hb dX0_canClash_19 rfl (lv_at hl 1 rfl) ?_
    refine ld_C_places C0 hw h.1 dX0_canClash_20 ?_
    have h := h.2
    refine clVI (As := [.int (gC_places S (x1).toNatClampNeg)]) (rest := []) (ci := 3) (k := 1) C0 (m_X4_isReference l D ad cI cJ cZ S (gC_places S (x1).toNatClampNeg) _ h) cal_X4_isReference kw_51 kw_50 kw_58 rfl rfl rfl rfl hl.1 rfl (Nat.le_of_ble_eq_true rfl) ⟨Nat.le_of_ble_eq_true rfl, Nat.le_of_ble_eq_true rfl⟩ rfl rfl dX0_canClash_21 hw (fun r21 S21 H locs h hw => ?_)
    replace h := h
    refine lv_if_ne (tgt := 31) hx hb dX0_canClash_24 (by decide) (fun c24 => ?_) (fun c24 => ?_)
    · have h := h.1 c24
      refine lv_iconst (v := 0) hx hb dX0_canClash_31 (by decide) ?_
      exact rtZ C0 hw rfl h dX0_canClash_32
    · have h := h.2 c24
      refine lv_iconst (v := 1) hx hb dX0_canClash_27 (by decide) ?_
      refine lv_goto (tgt := 32) hx hb dX0_canClash_28 (by decide) ?_
      exact rtZ C0 hw rfl h dX0_canClash_32
abbrev rm_X0_onlyLooks : Room := { frames := 2, cells := 0, slots := 0, locals := 42 }
set_option maxHeartbeats 4000000 in
set_option maxRecDepth 100000 in
theorem mb_X0_onlyLooks_34 {p : Program} {l : Launch} {e : Env} {s : State} {m : MethodId} {args : Array Value} {below : List Frame} {meth : Method} {c : Code} {D : va_G} {ad : Nat → Nat} {cI cJ cZ : ClassId} {A : Nat → Prop} {post : Int32 → CS → Prop} (C0 : Cx p s m args meth c cX0_onlyLooks 3 RX0 (some .boolean) D cI cJ cZ A) :
 ∀ (x1 : Int32) (x2 : Int32) (S : CS) (H : Heap) (locs : List Loc) (ls : Array Slot), wp_X0_onlyLooks_34 post x1 x2 S → Wd (WC ad cI cJ cZ) D A s.heap H locs S → lv_has ls 3 [(0, .ref (ad 4)), (1, .int x1), (2, .int x2)] → W p l e rm_X0_onlyLooks s m args below meth c H locs 0 0 (QI (WC ad cI cJ cZ) D A s args below post) (F0 m 34 ls []) := by
  have hx := C0.1
  have hb := C0.2.1
  intro x1 x2 S H locs ls h hw hl
  unfold wp_X0_onlyLooks_34 at h
  refine lv_iload_n hx hb dX0_onlyLooks_34 rfl (lv_at hl 2 rfl) ?_
  refine lv_bipush (v := 8) hx hb dX0_onlyLooks_35 (by decide) ?_
  refine lv_icmp_ne (tgt := 60) hx hb dX0_onlyLooks_37 (by decide) (fun c37 => ?_) (fun c37 => ?_)
  · have h := h.1 c37
    refine lv_iconst (v := 0) hx hb dX0_onlyLooks_60 (by decide) ?_
    exact rtZ C0 hw rfl h dX0_onlyLooks_61
  · have h := h.2 c37
    refine lv_aload_n hx hb dX0_onlyLooks_40 rfl (lv_at hl 0 rfl) ?_
    refine gf_X0_variables C0 hw dX0_onlyLooks_41 ?_
    refine lv_aload_n hx hb dX0_onlyLooks_44 rfl (lv_at hl 0 rfl) ?_
    refine gf_X0_places C0 hw dX0_onlyLooks_45 ?_
    refine lv_iload_n hx hb dX0_onlyLooks_48 rfl (lv_at hl 1 rfl) ?_
    refine ld_C_places C0 hw h.1 dX0_onlyLooks_49 ?_
    have h := h.2
    refine clVI (As := [.int (gC_places S (x1).toNatClampNeg)]) (rest := []) (ci := 3) (k := 1) C0 (m_X4_isShared l D ad cI cJ cZ S (gC_places S (x1).toNatClampNeg) _ h) cal_X4_isShared kw_87 kw_86 kw_157 rfl rfl rfl rfl hl.1 rfl (Nat.le_of_ble_eq_true rfl) ⟨Nat.le_of_ble_eq_true rfl, Nat.le_of_ble_eq_true rfl⟩ rfl rfl dX0_onlyLooks_50 hw (fun r50 S50 H locs h hw => ?_)
    replace h := h
    refine lv_if_eq (tgt := 60) hx hb dX0_onlyLooks_53 (by decide) (fun c53 => ?_) (fun c53 => ?_)
    · have h := h.1 c53
      refine lv_iconst (v := 0) hx hb dX0_onlyLooks_60 (by decide) ?_
      exact rtZ C0 hw rfl h dX0_onlyLooks_61
    · have h := h.2 c53
      refine lv_iconst (v := 1) hx hb dX0_onlyLooks_56 (by decide) ?_
      refine lv_goto (tgt := 61) hx hb dX0_onlyLooks_57 (by decide) ?_
      exact rtZ C0 hw rfl h dX0_onlyLooks_61
set_option maxHeartbeats 4000000 in
set_option maxRecDepth 100000 in
theorem m_X0_onlyLooks (l : Launch) (D : va_G) (ad : Nat → Nat) (cI cJ cZ : ClassId) (S : CS) (x1 : Int32) (post : Int32 → CS → Prop) (h : wp_X0_onlyLooks S x1 post) : CI (WC ad cI cJ cZ) D cI cJ cZ l yX0_onlyLooks (.code yX0_onlyLooks cX0_onlyLooks 3 (some .boolean) :: gt) rm_X0_onlyLooks S [.ref (ad 4), .int x1] post := by
  refine enI (by decide) (Nat.le_of_ble_eq_true rfl) ?_
  intro p e s m below meth c A ls C0 hw hl
  have C0 : Cx p s m _ meth c cX0_onlyLooks 3 RX0 (some .boolean) D cI cJ cZ A := C0
  have hl : lv_has ls 3 [(0, .ref (ad 4)), (1, .int x1)] := hl
  have hx := C0.1
  have hb := C0.2.1
  unfold wp_X0_onlyLooks at h
  refine lv_aload_n hx hb dX0_onlyLooks_0 rfl (lv_at hl 0 rfl) ?_
  refine gf_X0_kinds C0 hw dX0_onlyLooks_1 ?_
  refine lv_iload_n hx hb dX0_onlyLooks_4 rfl (lv_at hl 1 rfl) ?_
  refine ld_C_kinds C0 hw h.1 dX0_onlyLooks_5 ?_
  have h := h.2
  refine lv_topi (fun x2_1 ex2_1 => ?_)
  have h := h x2_1 ex2_1
  refine lv_istore_n (lv' := [(2, .int x2_1), (0, .ref (ad 4)), (1, .int x1)]) hx hb dX0_onlyLooks_6 rfl hl (by decide) rfl (fun ls hl => ?_)
  refine lv_iload_n hx hb dX0_onlyLooks_7 rfl (lv_at hl 0 rfl) ?_
  refine lv_iconst (v := 1) hx hb dX0_onlyLooks_8 (by decide) ?_
  refine lv_icmp_eq (tgt := 56) hx hb dX0_onlyLooks_9 (by decide) (fun c9 => ?_) (fun c9 => ?_)
  · have h := h.1 c9
    refine lv_iconst (v := 1) hx hb dX0_onlyLooks_56 (by decide) ?_
    refine lv_goto (tgt := 61) hx hb dX0_onlyLooks_57 (by decide) ?_
    exact rtZ C0 hw rfl h dX0_onlyLooks_61
  · have h := h.2 c9
    refine lv_iload_n hx hb dX0_onlyLooks_12 rfl (lv_at hl 0 rfl) ?_
    refine lv_bipush (v := 7) hx hb dX0_onlyLooks_13 (by decide) ?_
    refine lv_icmp_ne (tgt := 34) hx hb dX0_onlyLooks_15 (by decide) (fun c15 => ?_) (fun c15 => ?_)
    · have h := h.1 c15
      replace hl := lv_sub hl [1, 2, 0] rfl
      exact mb_X0_onlyLooks_34 C0 x1 x2_1 S _ _ ls h hw hl
    · have h := h.2 c15
      refine lv_aload_n hx hb dX0_onlyLooks_18 rfl (lv_at hl 1 rfl) ?_
      refine gf_X0_variables C0 hw dX0_onlyLooks_19 ?_
      refine lv_aload_n hx hb dX0_onlyLooks_22 rfl (lv_at hl 1 rfl) ?_
      refine gf_X0_receivers C0 hw dX0_onlyLooks_23 ?_
      refine lv_iload_n hx hb dX0_onlyLooks_26 rfl (lv_at hl 2 rfl) ?_
      refine ld_C_recvs C0 hw h.1 dX0_onlyLooks_27 ?_
      have h := h.2
      refine clVI (As := [.int (gC_recvs S (x1).toNatClampNeg)]) (rest := []) (ci := 3) (k := 1) C0 (m_X4_isShared l D ad cI cJ cZ S (gC_recvs S (x1).toNatClampNeg) _ h) cal_X4_isShared kw_87 kw_86 kw_157 rfl rfl rfl rfl hl.1 rfl (Nat.le_of_ble_eq_true rfl) ⟨Nat.le_of_ble_eq_true rfl, Nat.le_of_ble_eq_true rfl⟩ rfl rfl dX0_onlyLooks_28 hw (fun r28 S28 H locs h hw => ?_)
      replace h := h
      refine lv_if_ne (tgt := 56) hx hb dX0_onlyLooks_31 (by decide) (fun c31 => ?_) (fun c31 => ?_)
      · have h := h.1 c31
        refine lv_iconst (v := 1) hx hb dX0_onlyLooks_56 (by decide) ?_
        refine lv_goto (tgt := 61) hx hb dX0_onlyLooks_57 (by decide) ?_
        exact rtZ C0 hw rfl h dX0_onlyLooks_61
      · have h := h.2 c31
        replace hl := lv_sub hl [1, 2, 0] rfl
        exact mb_X0_onlyLooks_34 C0 x1 x2_1 S28 _ _ ls h hw hl
abbrev rm_X4_hasLeaf : Room := { frames := 1, cells := 0, slots := 0, locals := 21 }
set_option maxHeartbeats 4000000 in
set_option maxRecDepth 100000 in
theorem m_X4_hasLeaf (l : Launch) (D : va_G) (ad : Nat → Nat) (cI cJ cZ : ClassId) (S : CS) (x1 : Int32) (x2 : Int32) (post : Int32 → CS → Prop) (h : wp_X4_hasLeaf S x1 x2 post) : CI (WC ad cI cJ cZ) D cI cJ cZ l yX4_hasLeaf (.code yX4_hasLeaf cX4_hasLeaf 3 (some .boolean) :: gt) rm_X4_hasLeaf S [.ref (ad 1), .int x1, .int x2] post := by
  refine enI (by decide) (Nat.le_of_ble_eq_true rfl) ?_
  intro p e s m below meth c A ls C0 hw hl
  have C0 : Cx p s m _ meth c cX4_hasLeaf 3 RX4 (some .boolean) D cI cJ cZ A := C0
  have hl : lv_has ls 3 [(0, .ref (ad 1)), (1, .int x1), (2, .int x2)] := hl
  have hx := C0.1
  have hb := C0.2.1
  unfold wp_X4_hasLeaf at h
  refine lv_aload_n hx hb dX4_hasLeaf_0 rfl (lv_at hl 0 rfl) ?_
  refine lv_iload_n hx hb dX4_hasLeaf_1 rfl (lv_at hl 1 rfl) ?_
  refine clVI (As := [.int x1]) (rest := []) (ci := 3) (k := 1) C0 (m_X4_has l D ad cI cJ cZ S x1 _ h) cal_X4_has kw_13 kw_12 kw_14 rfl rfl rfl rfl hl.1 rfl (Nat.le_of_ble_eq_true rfl) ⟨Nat.le_of_ble_eq_true rfl, Nat.le_of_ble_eq_true rfl⟩ rfl rfl dX4_hasLeaf_2 hw (fun r2 S2 H locs h hw => ?_)
  replace h := h
  refine lv_if_eq (tgt := 26) hx hb dX4_hasLeaf_5 (by decide) (fun c5 => ?_) (fun c5 => ?_)
  · have h := h.1 c5
    refine lv_iconst (v := 0) hx hb dX4_hasLeaf_26 (by decide) ?_
    exact rtZ C0 hw rfl h dX4_hasLeaf_27
  · have h := h.2 c5
    refine lv_iload_n hx hb dX4_hasLeaf_8 rfl (lv_at hl 2 rfl) ?_
    refine lv_if_lt (tgt := 26) hx hb dX4_hasLeaf_9 (by decide) (fun c9 => ?_) (fun c9 => ?_)
    · have h := h.1 c9
      refine lv_iconst (v := 0) hx hb dX4_hasLeaf_26 (by decide) ?_
      exact rtZ C0 hw rfl h dX4_hasLeaf_27
    · have h := h.2 c9
      refine lv_iload_n hx hb dX4_hasLeaf_12 rfl (lv_at hl 2 rfl) ?_
      refine lv_aload_n hx hb dX4_hasLeaf_13 rfl (lv_at hl 0 rfl) ?_
      refine gf_X4_leafCounts C0 hw dX4_hasLeaf_14 ?_
      refine lv_iload_n hx hb dX4_hasLeaf_17 rfl (lv_at hl 1 rfl) ?_
      refine ld_C_lcs C0 hw h.1 dX4_hasLeaf_18 ?_
      have h := h.2
      refine lv_icmp_ge (tgt := 26) hx hb dX4_hasLeaf_19 (by decide) (fun c19 => ?_) (fun c19 => ?_)
      · have h := h.1 c19
        refine lv_iconst (v := 0) hx hb dX4_hasLeaf_26 (by decide) ?_
        exact rtZ C0 hw rfl h dX4_hasLeaf_27
      · have h := h.2 c19
        refine lv_iconst (v := 1) hx hb dX4_hasLeaf_22 (by decide) ?_
        refine lv_goto (tgt := 27) hx hb dX4_hasLeaf_23 (by decide) ?_
        exact rtZ C0 hw rfl h dX4_hasLeaf_27
abbrev rm_J13_bitCount_95d88 : Room := { frames := 0, cells := 0, slots := 0, locals := 0 }
set_option maxHeartbeats 4000000 in
set_option maxRecDepth 100000 in
theorem m_J13_bitCount_95d88 (l : Launch) (D : va_G) (ad : Nat → Nat) (cI cJ cZ : ClassId) (S : CS) (x0 : Int64) (post : Int32 → CS → Prop) (h : wp_J13_bitCount_95d88 S x0 post) : CI (WC ad cI cJ cZ) D cI cJ cZ l yJ13_bitCount_95d88 (.code yJ13_bitCount_95d88 cJ13_bitCount_95d88 2 (some .int) :: gt) rm_J13_bitCount_95d88 S [.long x0] post := by
  refine enI (by decide) (Nat.le_of_ble_eq_true rfl) ?_
  intro p e s m below meth c A ls C0 hw hl
  have C0 : Cx p s m _ meth c cJ13_bitCount_95d88 2 RJ13 (some .int) D cI cJ cZ A := C0
  have hl : lv_has ls 2 [(0, .long x0)] := hl
  have hx := C0.1
  have hb := C0.2.1
  unfold wp_J13_bitCount_95d88 at h
  refine lv_lload_n hx hb dJ13_bitCount_95d88_0 rfl (lv_at hl 0 rfl) ?_
  refine lv_lload_n hx hb dJ13_bitCount_95d88_1 rfl (lv_at hl 0 rfl) ?_
  refine lv_iconst (v := 1) hx hb dJ13_bitCount_95d88_2 (by decide) ?_
  refine lv_lushr hx hb dJ13_bitCount_95d88_3 rfl ?_
  refine lv_ldc2 (v := 6148914691236517205) hx hb C0.2.2.2.2.1 (C0.2.2.2.2.2.1 _ kw_279) dJ13_bitCount_95d88_4 ?_
  refine lv_land hx hb dJ13_bitCount_95d88_7 ?_
  refine lv_lsub hx hb dJ13_bitCount_95d88_8 ?_
  refine lv_topl (fun x0_1 ex0_1 => ?_)
  have h := h x0_1 ex0_1
  refine lv_lstore_n (lv' := [(0, .long x0_1)]) hx hb dJ13_bitCount_95d88_9 rfl hl (by decide) rfl (fun ls hl => ?_)
  refine lv_lload_n hx hb dJ13_bitCount_95d88_10 rfl (lv_at hl 0 rfl) ?_
  refine lv_ldc2 (v := 3689348814741910323) hx hb C0.2.2.2.2.1 (C0.2.2.2.2.2.1 _ kw_280) dJ13_bitCount_95d88_11 ?_
  refine lv_land hx hb dJ13_bitCount_95d88_14 ?_
  refine lv_lload_n hx hb dJ13_bitCount_95d88_15 rfl (lv_at hl 0 rfl) ?_
  refine lv_iconst (v := 2) hx hb dJ13_bitCount_95d88_16 (by decide) ?_
  refine lv_lushr hx hb dJ13_bitCount_95d88_17 rfl ?_
  refine lv_ldc2 (v := 3689348814741910323) hx hb C0.2.2.2.2.1 (C0.2.2.2.2.2.1 _ kw_280) dJ13_bitCount_95d88_18 ?_
  refine lv_land hx hb dJ13_bitCount_95d88_21 ?_
  refine lv_ladd hx hb dJ13_bitCount_95d88_22 ?_
  refine lv_topl (fun x0_2 ex0_2 => ?_)
  have h := h x0_2 ex0_2
  refine lv_lstore_n (lv' := [(0, .long x0_2)]) hx hb dJ13_bitCount_95d88_23 rfl hl (by decide) rfl (fun ls hl => ?_)
  refine lv_lload_n hx hb dJ13_bitCount_95d88_24 rfl (lv_at hl 0 rfl) ?_
  refine lv_lload_n hx hb dJ13_bitCount_95d88_25 rfl (lv_at hl 0 rfl) ?_
  refine lv_iconst (v := 4) hx hb dJ13_bitCount_95d88_26 (by decide) ?_
  refine lv_lushr hx hb dJ13_bitCount_95d88_27 rfl ?_
  refine lv_ladd hx hb dJ13_bitCount_95d88_28 ?_
  refine lv_ldc2 (v := 1085102592571150095) hx hb C0.2.2.2.2.1 (C0.2.2.2.2.2.1 _ kw_281) dJ13_bitCount_95d88_29 ?_
  refine lv_land hx hb dJ13_bitCount_95d88_32 ?_
  refine lv_topl (fun x0_3 ex0_3 => ?_)
  have h := h x0_3 ex0_3
  refine lv_lstore_n (lv' := [(0, .long x0_3)]) hx hb dJ13_bitCount_95d88_33 rfl hl (by decide) rfl (fun ls hl => ?_)
  refine lv_lload_n hx hb dJ13_bitCount_95d88_34 rfl (lv_at hl 0 rfl) ?_
  refine lv_lload_n hx hb dJ13_bitCount_95d88_35 rfl (lv_at hl 0 rfl) ?_
  refine lv_bipush (v := 8) hx hb dJ13_bitCount_95d88_36 (by decide) ?_
  refine lv_lushr hx hb dJ13_bitCount_95d88_38 rfl ?_
  refine lv_ladd hx hb dJ13_bitCount_95d88_39 ?_
  refine lv_topl (fun x0_4 ex0_4 => ?_)
  have h := h x0_4 ex0_4
  refine lv_lstore_n (lv' := [(0, .long x0_4)]) hx hb dJ13_bitCount_95d88_40 rfl hl (by decide) rfl (fun ls hl => ?_)
  refine lv_lload_n hx hb dJ13_bitCount_95d88_41 rfl (lv_at hl 0 rfl) ?_
  refine lv_lload_n hx hb dJ13_bitCount_95d88_42 rfl (lv_at hl 0 rfl) ?_
  refine lv_bipush (v := 16) hx hb dJ13_bitCount_95d88_43 (by decide) ?_
  refine lv_lushr hx hb dJ13_bitCount_95d88_45 rfl ?_
  refine lv_ladd hx hb dJ13_bitCount_95d88_46 ?_
  refine lv_topl (fun x0_5 ex0_5 => ?_)
  have h := h x0_5 ex0_5
  refine lv_lstore_n (lv' := [(0, .long x0_5)]) hx hb dJ13_bitCount_95d88_47 rfl hl (by decide) rfl (fun ls hl => ?_)
  refine lv_lload_n hx hb dJ13_bitCount_95d88_48 rfl (lv_at hl 0 rfl) ?_
  refine lv_lload_n hx hb dJ13_bitCount_95d88_49 rfl (lv_at hl 0 rfl) ?_
  refine lv_bipush (v := 32) hx hb dJ13_bitCount_95d88_50 (by decide) ?_
  refine lv_lushr hx hb dJ13_bitCount_95d88_52 rfl ?_
  refine lv_ladd hx hb dJ13_bitCount_95d88_53 ?_
  refine lv_topl (fun x0_6 ex0_6 => ?_)
  have h := h x0_6 ex0_6
  refine lv_lstore_n (lv' := [(0, .long x0_6)]) hx hb dJ13_bitCount_95d88_54 rfl hl (by decide) rfl (fun ls hl => ?_)
  refine lv_lload_n hx hb dJ13_bitCount_95d88_55 rfl (lv_at hl 0 rfl) ?_
  refine lv_l2i hx hb dJ13_bitCount_95d88_56 rfl ?_
  refine lv_bipush (v := 127) hx hb dJ13_bitCount_95d88_57 (by decide) ?_
  refine lv_iand hx hb dJ13_bitCount_95d88_59 ?_
  exact rtI C0 hw h dJ13_bitCount_95d88_60

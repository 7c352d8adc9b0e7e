abbrev rm_X1_handOn : Room := { frames := 1, cells := 0, slots := 0, locals := 22 }
set_option maxHeartbeats 4000000 in
set_option maxRecDepth 100000 in
theorem mb_X1_handOn_153 {p : Program} {l : Launch} {e : Env} {s : State} {m : MethodId} {args : Array Value} {below : List Frame} {meth : Method} {c : Code} {D : va_G} {ad : Nat → Nat} {cI cJ cZ : ClassId} {A : Nat → Prop} {post : Int32 → CS → Prop} (C0 : Cx p s m args meth c cX1_handOn 9 RX1 (some .boolean) D cI cJ cZ A) (K65 : Int32 → Int64 → Int64 → Int32 → Int32 → CS → Prop) (hK65 : ∀ (x1 : Int32) (x2 : Int64) (x4 : Int64) (x6 : Int32) (x7 : Int32) (S : CS) (H : Heap) (locs : List Loc) (ls : Array Slot), K65 x1 x2 x4 x6 x7 S → Wd (WC ad cI cJ cZ) D A s.heap H locs S → lv_has ls 9 [(0, .ref (ad 20)), (1, .int x1), (2, .long x2), (4, .long x4), (6, .int x6), (7, .int x7)] → W p l e rm_X1_handOn s m args below meth c H locs 0 0 (QI (WC ad cI cJ cZ) D A s args below post) (F0 m 65 ls [])) :
 ∀ (x1 : Int32) (x2 : Int64) (x4 : Int64) (x6 : Int32) (x7 : Int32) (S : CS) (H : Heap) (locs : List Loc) (ls : Array Slot), wp_X1_handOn_153 K65 post x1 x2 x4 x6 x7 S → Wd (WC ad cI cJ cZ) D A s.heap H locs S → lv_has ls 9 [(0, .ref (ad 20)), (1, .int x1), (2, .long x2), (4, .long x4), (6, .int x6), (7, .int x7)] → W p l e rm_X1_handOn s m args below meth c H locs 0 0 (QI (WC ad cI cJ cZ) D A s args below post) (F0 m 153 ls []) := by
  have hx := C0.1
  have hb := C0.2.1
  intro x1 x2 x4 x6 x7 S H locs ls h hw hl
  unfold wp_X1_handOn_153 at h
  obtain ⟨x7_1, ex7_1⟩ : ∃ y : Int32, y = x7 + (1 : Int32) := ⟨_, rfl⟩
  refine lv_iinc (v := x7_1) (lv' := [(7, .int x7_1), (0, .ref (ad 20)), (1, .int x1), (2, .long x2), (4, .long x4), (6, .int x6)]) hx hb dX1_handOn_153 hl (k := 5) rfl (by rw [ex7_1]; rfl) (by decide) rfl (fun ls hl => ?_)
  have h := h x7_1 ex7_1
  refine lv_goto (tgt := 65) hx hb dX1_handOn_156 (by decide) ?_
  replace hl := lv_sub hl [1, 2, 3, 4, 5, 0] rfl
  exact hK65 x1 x2 x4 x6 x7_1 S _ _ _ h hw hl
set_option maxHeartbeats 4000000 in
set_option maxRecDepth 100000 in
theorem mb_X1_handOn_127 {p : Program} {l : Launch} {e : Env} {s : State} {m : MethodId} {args : Array Value} {below : List Frame} {meth : Method} {c : Code} {D : va_G} {ad : Nat → Nat} {cI cJ cZ : ClassId} {A : Nat → Prop} {post : Int32 → CS → Prop} (C0 : Cx p s m args meth c cX1_handOn 9 RX1 (some .boolean) D cI cJ cZ A) (K153 : Int32 → Int64 → Int64 → Int32 → Int32 → CS → Prop) (hK153 : ∀ (x1 : Int32) (x2 : Int64) (x4 : Int64) (x6 : Int32) (x7 : Int32) (S : CS) (H : Heap) (locs : List Loc) (ls : Array Slot), K153 x1 x2 x4 x6 x7 S → Wd (WC ad cI cJ cZ) D A s.heap H locs S → lv_has ls 9 [(0, .ref (ad 20)), (1, .int x1), (2, .long x2), (4, .long x4), (6, .int x6), (7, .int x7)] → W p l e rm_X1_handOn s m args below meth c H locs 0 0 (QI (WC ad cI cJ cZ) D A s args below post) (F0 m 153 ls [])) :
 ∀ (x1 : Int32) (x2 : Int64) (x4 : Int64) (x7 : Int32) (x8 : Int32) (S : CS) (H : Heap) (locs : List Loc) (ls : Array Slot), wp_X1_handOn_127 K153 post x1 x2 x4 x7 x8 S → Wd (WC ad cI cJ cZ) D A s.heap H locs S → lv_has ls 9 [(0, .ref (ad 20)), (1, .int x1), (2, .long x2), (4, .long x4), (7, .int x7), (8, .int x8)] → W p l e rm_X1_handOn s m args below meth c H locs 0 0 (QI (WC ad cI cJ cZ) D A s args below post) (F0 m 127 ls []) := by
  have hx := C0.1
  have hb := C0.2.1
  intro x1 x2 x4 x7 x8 S H locs ls h hw hl
  unfold wp_X1_handOn_127 at h
  refine lv_aload_n hx hb dX1_handOn_127 rfl (lv_at hl 0 rfl) ?_
  refine gf_X1_onAll C0 hw dX1_handOn_128 ?_
  refine lv_iload hx hb dX1_handOn_131 (lv_at hl 5 rfl) ?_
  refine lv_dup2_11 hx hb dX1_handOn_133 rfl rfl ?_
  refine ld_C_onAll C0 hw h.1 dX1_handOn_134 ?_
  have h := h.2
  refine lv_lload_n hx hb dX1_handOn_135 rfl (lv_at hl 2 rfl) ?_
  refine lv_land hx hb dX1_handOn_136 ?_
  refine st_C_onAll C0 hw h.1 dX1_handOn_137 (fun H locs hw => ?_)
  have h := h.2
  obtain ⟨S_1, eS_1⟩ : ∃ z, z = sC_onAll S (vp_updL (gC_onAll S) (x8).toNatClampNeg ((gC_onAll S (x8).toNatClampNeg) &&& x2)) := ⟨_, rfl⟩
  rw [← eS_1] at hw
  have h := h S_1 eS_1
  refine lv_aload_n hx hb dX1_handOn_138 rfl (lv_at hl 0 rfl) ?_
  refine gf_X1_onSome C0 hw dX1_handOn_139 ?_
  refine lv_iload hx hb dX1_handOn_142 (lv_at hl 5 rfl) ?_
  refine lv_dup2_11 hx hb dX1_handOn_144 rfl rfl ?_
  refine ld_C_onSome C0 hw h.1 dX1_handOn_145 ?_
  have h := h.2
  refine lv_lload hx hb dX1_handOn_146 (lv_at hl 3 rfl) ?_
  refine lv_lor hx hb dX1_handOn_148 ?_
  refine st_C_onSome C0 hw h.1 dX1_handOn_149 (fun H locs hw => ?_)
  have h := h.2
  obtain ⟨S_2, eS_2⟩ : ∃ z, z = sC_onSome S_1 (vp_updL (gC_onSome S_1) (x8).toNatClampNeg ((gC_onSome S_1 (x8).toNatClampNeg) ||| x4)) := ⟨_, rfl⟩
  rw [← eS_2] at hw
  have h := h S_2 eS_2
  refine lv_iconst (v := 1) hx hb dX1_handOn_150 (by decide) ?_
  refine lv_istore (lv' := [(6, .int (1 : Int32)), (0, .ref (ad 20)), (1, .int x1), (2, .long x2), (4, .long x4), (7, .int x7), (8, .int x8)]) hx hb dX1_handOn_151 hl (by decide) rfl (fun ls hl => ?_)
  replace hl := lv_sub hl [1, 2, 3, 4, 0, 5] rfl
  exact hK153 x1 x2 x4 (1 : Int32) x7 S_2 _ _ _ h hw hl
set_option maxHeartbeats 4000000 in
set_option maxRecDepth 100000 in
theorem mb_X1_handOn_65 {p : Program} {l : Launch} {e : Env} {s : State} {m : MethodId} {args : Array Value} {below : List Frame} {meth : Method} {c : Code} {D : va_G} {ad : Nat → Nat} {cI cJ cZ : ClassId} {A : Nat → Prop} {post : Int32 → CS → Prop} (C0 : Cx p s m args meth c cX1_handOn 9 RX1 (some .boolean) D cI cJ cZ A) :
 ∀ (n : Nat) (x1 : Int32) (x2 : Int64) (x4 : Int64) (x6 : Int32) (x7 : Int32) (S : CS) (H : Heap) (locs : List Loc) (ls : Array Slot), wp_X1_handOn_65 post n x1 x2 x4 x6 x7 S → Wd (WC ad cI cJ cZ) D A s.heap H locs S → lv_has ls 9 [(0, .ref (ad 20)), (1, .int x1), (2, .long x2), (4, .long x4), (6, .int x6), (7, .int x7)] → W p l e rm_X1_handOn s m args below meth c H locs 0 0 (QI (WC ad cI cJ cZ) D A s args below post) (F0 m 65 ls []) := by
  have hx := C0.1
  have hb := C0.2.1
  intro n
  induction n with
  | zero => intro x1 x2 x4 x6 x7 S H locs ls h; exact h.elim
  | succ n ih =>
    intro x1 x2 x4 x6 x7 S H locs ls h hw hl
    replace h : ws_X1_handOn_65 (wp_X1_handOn_65  post n)  post x1 x2 x4 x6 x7 S := h
    unfold ws_X1_handOn_65 at h
    refine lv_iload hx hb dX1_handOn_65 (lv_at hl 5 rfl) ?_
    refine lv_aload_n hx hb dX1_handOn_67 rfl (lv_at hl 0 rfl) ?_
    refine gf_X1_ways C0 hw dX1_handOn_68 ?_
    refine lv_iload_n hx hb dX1_handOn_71 rfl (lv_at hl 1 rfl) ?_
    refine clVI (As := [.int x1]) (rest := [.int x7]) (ci := 4) (k := 14) C0 (m_X5_nextCount l D ad cI cJ cZ S x1 _ h) cal_X5_nextCount kw_125 kw_124 kw_123 rfl rfl rfl rfl hl.1 rfl (Nat.le_of_ble_eq_true rfl) ⟨Nat.le_of_ble_eq_true rfl, Nat.le_of_ble_eq_true rfl⟩ rfl rfl dX1_handOn_72 hw (fun r72 S72 H locs h hw => ?_)
    replace h := h
    refine lv_icmp_ge (tgt := 159) hx hb dX1_handOn_75 (by decide) (fun c75 => ?_) (fun c75 => ?_)
    · have h := h.1 c75
      refine lv_iload hx hb dX1_handOn_159 (lv_at hl 4 rfl) ?_
      exact rtZ C0 hw (isb_n h.1) h.2 dX1_handOn_161
    · have h := h.2 c75
      refine lv_aload_n hx hb dX1_handOn_78 rfl (lv_at hl 0 rfl) ?_
      refine gf_X1_ways C0 hw dX1_handOn_79 ?_
      refine lv_iload_n hx hb dX1_handOn_82 rfl (lv_at hl 1 rfl) ?_
      refine lv_iload hx hb dX1_handOn_83 (lv_at hl 5 rfl) ?_
      refine clVI (As := [.int x1, .int x7]) (rest := []) (ci := 4) (k := 14) C0 (m_X5_nextOf l D ad cI cJ cZ S72 x1 x7 _ h) cal_X5_nextOf kw_97 kw_96 kw_126 rfl rfl rfl rfl hl.1 rfl (Nat.le_of_ble_eq_true rfl) ⟨Nat.le_of_ble_eq_true rfl, Nat.le_of_ble_eq_true rfl⟩ rfl rfl dX1_handOn_85 hw (fun r85 S85 H locs h hw => ?_)
      replace h := h
      refine lv_istore (lv' := [(8, .int r85), (0, .ref (ad 20)), (1, .int x1), (2, .long x2), (4, .long x4), (6, .int x6), (7, .int x7)]) hx hb dX1_handOn_88 hl (by decide) rfl (fun ls hl => ?_)
      refine lv_aload_n hx hb dX1_handOn_90 rfl (lv_at hl 1 rfl) ?_
      refine gf_X1_onAll C0 hw dX1_handOn_91 ?_
      refine lv_iload hx hb dX1_handOn_94 (lv_at hl 0 rfl) ?_
      refine ld_C_onAll C0 hw h.1 dX1_handOn_96 ?_
      have h := h.2
      refine lv_lload_n hx hb dX1_handOn_97 rfl (lv_at hl 3 rfl) ?_
      refine lv_ldc2 (v := -1) hx hb C0.2.2.2.2.1 (C0.2.2.2.2.2.1 _ kw_127) dX1_handOn_98 ?_
      refine lv_lxor hx hb dX1_handOn_101 ?_
      refine lv_land hx hb dX1_handOn_102 ?_
      refine lv_lconst (v := 0) hx hb dX1_handOn_103 (by decide) ?_
      refine W.lcmp hx hb dX1_handOn_104 ?_
      refine lv_if_ne (tgt := 127) hx hb dX1_handOn_105 (by decide) (fun c105 => ?_) (fun c105 => ?_)
      · have h := h.1 c105
        replace hl := lv_sub hl [1, 2, 3, 4, 6, 0] rfl
        exact mb_X1_handOn_127 C0 _ (fun x1 x2 x4 x6 x7 S H locs ls h hw hl => mb_X1_handOn_153 C0 _ ih x1 x2 x4 x6 x7 S _ _ ls h hw hl) x1 x2 x4 x7 r85 S85 _ _ ls h hw hl
      · have h := h.2 c105
        refine lv_lload hx hb dX1_handOn_108 (lv_at hl 4 rfl) ?_
        refine lv_aload_n hx hb dX1_handOn_110 rfl (lv_at hl 1 rfl) ?_
        refine gf_X1_onSome C0 hw dX1_handOn_111 ?_
        refine lv_iload hx hb dX1_handOn_114 (lv_at hl 0 rfl) ?_
        refine ld_C_onSome C0 hw h.1 dX1_handOn_116 ?_
        have h := h.2
        refine lv_ldc2 (v := -1) hx hb C0.2.2.2.2.1 (C0.2.2.2.2.2.1 _ kw_127) dX1_handOn_117 ?_
        refine lv_lxor hx hb dX1_handOn_120 ?_
        refine lv_land hx hb dX1_handOn_121 ?_
        refine lv_lconst (v := 0) hx hb dX1_handOn_122 (by decide) ?_
        refine W.lcmp hx hb dX1_handOn_123 ?_
        refine lv_if_eq (tgt := 153) hx hb dX1_handOn_124 (by decide) (fun c124 => ?_) (fun c124 => ?_)
        · have h := h.1 c124
          replace hl := lv_sub hl [1, 2, 3, 4, 5, 6] rfl
          exact mb_X1_handOn_153 C0 _ ih x1 x2 x4 x6 x7 S85 _ _ ls h hw hl
        · have h := h.2 c124
          replace hl := lv_sub hl [1, 2, 3, 4, 6, 0] rfl
          exact mb_X1_handOn_127 C0 _ (fun x1 x2 x4 x6 x7 S H locs ls h hw hl => mb_X1_handOn_153 C0 _ ih x1 x2 x4 x6 x7 S _ _ ls h hw hl) x1 x2 x4 x7 r85 S85 _ _ ls h hw hl
set_option maxHeartbeats 4000000 in
set_option maxRecDepth 100000 in
theorem m_X1_handOn (l : Launch) (D : va_G) (ad : Nat → Nat) (cI cJ cZ : ClassId) (S : CS) (x1 : Int32) (post : Int32 → CS → Prop) (h : wp_X1_handOn S x1 post) : CI (WC ad cI cJ cZ) D cI cJ cZ l yX1_handOn (.code yX1_handOn cX1_handOn 9 (some .boolean) :: gt) rm_X1_handOn S [.ref (ad 20), .int x1] post := by
  refine enI (by decide) (Nat.le_of_ble_eq_true rfl) ?_
  intro p e s m below meth c A ls C0 hw hl
  have C0 : Cx p s m _ meth c cX1_handOn 9 RX1 (some .boolean) D cI cJ cZ A := C0
  have hl : lv_has ls 9 [(0, .ref (ad 20)), (1, .int x1)] := hl
  have hx := C0.1
  have hb := C0.2.1
  unfold wp_X1_handOn at h
  refine lv_aload_n hx hb dX1_handOn_0 rfl (lv_at hl 0 rfl) ?_
  refine gf_X1_onAll C0 hw dX1_handOn_1 ?_
  refine lv_iload_n hx hb dX1_handOn_4 rfl (lv_at hl 1 rfl) ?_
  refine ld_C_onAll C0 hw h.1 dX1_handOn_5 ?_
  have h := h.2
  refine lv_aload_n hx hb dX1_handOn_6 rfl (lv_at hl 0 rfl) ?_
  refine gf_X1_acts C0 hw dX1_handOn_7 ?_
  refine lv_iload_n hx hb dX1_handOn_10 rfl (lv_at hl 1 rfl) ?_
  refine clVL (As := [.int x1]) (rest := [.long (gC_onAll S (x1).toNatClampNeg)]) (ci := 0) (k := 4) C0 (m_X0_takenAt l D ad cI cJ cZ S x1 _ h) cal_X0_takenAt kw_130 kw_129 kw_128 rfl rfl rfl rfl hl.1 rfl (Nat.le_of_ble_eq_true rfl) ⟨Nat.le_of_ble_eq_true rfl, Nat.le_of_ble_eq_true rfl⟩ rfl rfl dX1_handOn_11 hw (fun r11 S11 H locs h hw => ?_)
  replace h := h
  refine lv_ldc2 (v := -1) hx hb C0.2.2.2.2.1 (C0.2.2.2.2.2.1 _ kw_127) dX1_handOn_14 ?_
  refine lv_lxor hx hb dX1_handOn_17 ?_
  refine lv_land hx hb dX1_handOn_18 ?_
  refine lv_aload_n hx hb dX1_handOn_19 rfl (lv_at hl 0 rfl) ?_
  refine gf_X1_acts C0 hw dX1_handOn_20 ?_
  refine lv_iload_n hx hb dX1_handOn_23 rfl (lv_at hl 1 rfl) ?_
  refine clVL (As := [.int x1]) (rest := [.long ((gC_onAll S (x1).toNatClampNeg) &&& (r11 ^^^ (-1 : Int64)))]) (ci := 0) (k := 4) C0 (m_X0_givenAt l D ad cI cJ cZ S11 x1 _ h) cal_X0_givenAt kw_133 kw_132 kw_131 rfl rfl rfl rfl hl.1 rfl (Nat.le_of_ble_eq_true rfl) ⟨Nat.le_of_ble_eq_true rfl, Nat.le_of_ble_eq_true rfl⟩ rfl rfl dX1_handOn_24 hw (fun r24 S24 H locs h hw => ?_)
  replace h := h
  refine lv_lor hx hb dX1_handOn_27 ?_
  refine lv_topl (fun x2_1 ex2_1 => ?_)
  have h := h x2_1 ex2_1
  refine lv_lstore_n (lv' := [(2, .long x2_1), (0, .ref (ad 20)), (1, .int x1)]) hx hb dX1_handOn_28 rfl hl (by decide) rfl (fun ls hl => ?_)
  refine lv_aload_n hx hb dX1_handOn_29 rfl (lv_at hl 1 rfl) ?_
  refine gf_X1_onSome C0 hw dX1_handOn_30 ?_
  refine lv_iload_n hx hb dX1_handOn_33 rfl (lv_at hl 2 rfl) ?_
  refine ld_C_onSome C0 hw h.1 dX1_handOn_34 ?_
  have h := h.2
  refine lv_aload_n hx hb dX1_handOn_35 rfl (lv_at hl 1 rfl) ?_
  refine gf_X1_acts C0 hw dX1_handOn_36 ?_
  refine lv_iload_n hx hb dX1_handOn_39 rfl (lv_at hl 2 rfl) ?_
  refine clVL (As := [.int x1]) (rest := [.long (gC_onSome S24 (x1).toNatClampNeg)]) (ci := 0) (k := 4) C0 (m_X0_takenAt l D ad cI cJ cZ S24 x1 _ h) cal_X0_takenAt kw_130 kw_129 kw_128 rfl rfl rfl rfl hl.1 rfl (Nat.le_of_ble_eq_true rfl) ⟨Nat.le_of_ble_eq_true rfl, Nat.le_of_ble_eq_true rfl⟩ rfl rfl dX1_handOn_40 hw (fun r40 S40 H locs h hw => ?_)
  replace h := h
  refine lv_ldc2 (v := -1) hx hb C0.2.2.2.2.1 (C0.2.2.2.2.2.1 _ kw_127) dX1_handOn_43 ?_
  refine lv_lxor hx hb dX1_handOn_46 ?_
  refine lv_land hx hb dX1_handOn_47 ?_
  refine lv_aload_n hx hb dX1_handOn_48 rfl (lv_at hl 1 rfl) ?_
  refine gf_X1_acts C0 hw dX1_handOn_49 ?_
  refine lv_iload_n hx hb dX1_handOn_52 rfl (lv_at hl 2 rfl) ?_
  refine clVL (As := [.int x1]) (rest := [.long ((gC_onSome S24 (x1).toNatClampNeg) &&& (r40 ^^^ (-1 : Int64)))]) (ci := 0) (k := 4) C0 (m_X0_givenAt l D ad cI cJ cZ S40 x1 _ h) cal_X0_givenAt kw_133 kw_132 kw_131 rfl rfl rfl rfl hl.1 rfl (Nat.le_of_ble_eq_true rfl) ⟨Nat.le_of_ble_eq_true rfl, Nat.le_of_ble_eq_true rfl⟩ rfl rfl dX1_handOn_53 hw (fun r53 S53 H locs h hw => ?_)
  replace h := h
  refine lv_lor hx hb dX1_handOn_56 ?_
  refine lv_topl (fun x4_2 ex4_2 => ?_)
  have h := h x4_2 ex4_2
  refine lv_lstore (lv' := [(4, .long x4_2), (2, .long x2_1), (0, .ref (ad 20)), (1, .int x1)]) hx hb dX1_handOn_57 hl (by decide) rfl (fun ls hl => ?_)
  refine lv_iconst (v := 0) hx hb dX1_handOn_59 (by decide) ?_
  refine lv_istore (lv' := [(6, .int (0 : Int32)), (4, .long x4_2), (2, .long x2_1), (0, .ref (ad 20)), (1, .int x1)]) hx hb dX1_handOn_60 hl (by decide) rfl (fun ls hl => ?_)
  refine lv_iconst (v := 0) hx hb dX1_handOn_62 (by decide) ?_
  refine lv_istore (lv' := [(7, .int (0 : Int32)), (6, .int (0 : Int32)), (4, .long x4_2), (2, .long x2_1), (0, .ref (ad 20)), (1, .int x1)]) hx hb dX1_handOn_63 hl (by decide) rfl (fun ls hl => ?_)
  replace hl := lv_sub hl [4, 5, 3, 2, 1, 0] rfl
  obtain ⟨n, h⟩ := h
  exact mb_X1_handOn_65 C0 n x1 x2_1 x4_2 (0 : Int32) (0 : Int32) S53 _ _ ls h hw hl
abbrev rm_X1_flow : Room := { frames := 2, cells := 0, slots := 0, locals := 50 }
set_option maxHeartbeats 4000000 in
set_option maxRecDepth 100000 in
theorem mb_X1_flow_83 {p : Program} {l : Launch} {e : Env} {s : State} {m : MethodId} {args : Array Value} {below : List Frame} {meth : Method} {c : Code} {D : va_G} {ad : Nat → Nat} {cI cJ cZ : ClassId} {A : Nat → Prop} {post : CS → Prop} (C0 : Cx p s m args meth c cX1_flow 6 RX1 none D cI cJ cZ A) (K53 : Int32 → Int32 → Int32 → CS → Prop) (hK53 : ∀ (x3 : Int32) (x4 : Int32) (x5 : Int32) (S : CS) (H : Heap) (locs : List Loc) (ls : Array Slot), K53 x3 x4 x5 S → Wd (WC ad cI cJ cZ) D A s.heap H locs S → lv_has ls 6 [(0, .ref (ad 20)), (3, .int x3), (4, .int x4), (5, .int x5)] → W p l e rm_X1_flow s m args below meth c H locs 0 0 (QV (WC ad cI cJ cZ) D A s args below post) (F0 m 53 ls [])) :
 ∀ (x3 : Int32) (x4 : Int32) (x5 : Int32) (S : CS) (H : Heap) (locs : List Loc) (ls : Array Slot), wp_X1_flow_83 K53 post x3 x4 x5 S → Wd (WC ad cI cJ cZ) D A s.heap H locs S → lv_has ls 6 [(0, .ref (ad 20)), (3, .int x3), (4, .int x4), (5, .int x5)] → W p l e rm_X1_flow s m args below meth c H locs 0 0 (QV (WC ad cI cJ cZ) D A s args below post) (F0 m 83 ls []) := by
  have hx := C0.1
  have hb := C0.2.1
  intro x3 x4 x5 S H locs ls h hw hl
  unfold wp_X1_flow_83 at h
  obtain ⟨x5_1, ex5_1⟩ : ∃ y : Int32, y = x5 + (1 : Int32) := ⟨_, rfl⟩
  refine lv_iinc (v := x5_1) (lv' := [(5, .int x5_1), (0, .ref (ad 20)), (3, .int x3), (4, .int x4)]) hx hb dX1_flow_83 hl (k := 3) rfl (by rw [ex5_1]; rfl) (by decide) rfl (fun ls hl => ?_)
  have h := h x5_1 ex5_1
  refine lv_goto (tgt := 53) hx hb dX1_flow_86 (by decide) ?_
  replace hl := lv_sub hl [1, 2, 3, 0] rfl
  exact hK53 x3 x4 x5_1 S _ _ _ h hw hl
set_option maxHeartbeats 4000000 in
set_option maxRecDepth 100000 in
theorem mb_X1_flow_53 {p : Program} {l : Launch} {e : Env} {s : State} {m : MethodId} {args : Array Value} {below : List Frame} {meth : Method} {c : Code} {D : va_G} {ad : Nat → Nat} {cI cJ cZ : ClassId} {A : Nat → Prop} {post : CS → Prop} (C0 : Cx p s m args meth c cX1_flow 6 RX1 none D cI cJ cZ A) (K37 : Int32 → Int32 → CS → Prop) (hK37 : ∀ (x3 : Int32) (x4 : Int32) (S : CS) (H : Heap) (locs : List Loc) (ls : Array Slot), K37 x3 x4 S → Wd (WC ad cI cJ cZ) D A s.heap H locs S → lv_has ls 6 [(0, .ref (ad 20)), (3, .int x3), (4, .int x4)] → W p l e rm_X1_flow s m args below meth c H locs 0 0 (QV (WC ad cI cJ cZ) D A s args below post) (F0 m 37 ls [])) :
 ∀ (n : Nat) (x3 : Int32) (x4 : Int32) (x5 : Int32) (S : CS) (H : Heap) (locs : List Loc) (ls : Array Slot), wp_X1_flow_53 K37 post n x3 x4 x5 S → Wd (WC ad cI cJ cZ) D A s.heap H locs S → lv_has ls 6 [(0, .ref (ad 20)), (3, .int x3), (4, .int x4), (5, .int x5)] → W p l e rm_X1_flow s m args below meth c H locs 0 0 (QV (WC ad cI cJ cZ) D A s args below post) (F0 m 53 ls []) := by
  have hx := C0.1
  have hb := C0.2.1
  intro n
  induction n with
  | zero => intro x3 x4 x5 S H locs ls h; exact h.elim
  | succ n ih =>
    intro x3 x4 x5 S H locs ls h hw hl
    replace h : ws_X1_flow_53 (wp_X1_flow_53 K37 post n) K37 post x3 x4 x5 S := h
    unfold ws_X1_flow_53 at h
    refine lv_iload hx hb dX1_flow_53 (lv_at hl 3 rfl) ?_
    refine lv_aload_n hx hb dX1_flow_55 rfl (lv_at hl 0 rfl) ?_
    refine gf_X1_ways C0 hw dX1_flow_56 ?_
    refine clVI (As := []) (rest := [.int x5]) (ci := 4) (k := 14) C0 (m_X5_size l D ad cI cJ cZ S _ h) cal_X5_size kw_119 kw_118 kw_117 rfl rfl rfl rfl hl.1 rfl (Nat.le_of_ble_eq_true rfl) ⟨Nat.le_of_ble_eq_true rfl, Nat.le_of_ble_eq_true rfl⟩ rfl rfl dX1_flow_59 hw (fun r59 S59 H locs h hw => ?_)
    replace h := h
    refine lv_icmp_ge (tgt := 89) hx hb dX1_flow_62 (by decide) (fun c62 => ?_) (fun c62 => ?_)
    · have h := h.1 c62
      obtain ⟨x4_1, ex4_1⟩ : ∃ y : Int32, y = x4 + (1 : Int32) := ⟨_, rfl⟩
      refine lv_iinc (v := x4_1) (lv' := [(4, .int x4_1), (0, .ref (ad 20)), (3, .int x3), (5, .int x5)]) hx hb dX1_flow_89 hl (k := 2) rfl (by rw [ex4_1]; rfl) (by decide) rfl (fun ls hl => ?_)
      have h := h x4_1 ex4_1
      refine lv_goto (tgt := 37) hx hb dX1_flow_92 (by decide) ?_
      replace hl := lv_sub hl [1, 2, 0] rfl
      exact hK37 x3 x4_1 S59 _ _ _ h hw hl
    · have h := h.2 c62
      refine lv_aload_n hx hb dX1_flow_65 rfl (lv_at hl 0 rfl) ?_
      refine lv_aload_n hx hb dX1_flow_66 rfl (lv_at hl 0 rfl) ?_
      refine gf_X1_ways C0 hw dX1_flow_67 ?_
      refine lv_iload hx hb dX1_flow_70 (lv_at hl 3 rfl) ?_
      refine clVI (As := [.int x5]) (rest := [.ref (ad 20)]) (ci := 4) (k := 14) C0 (m_X5_fromTheBeginning l D ad cI cJ cZ S59 x5 _ h) cal_X5_fromTheBeginning kw_122 kw_121 kw_120 rfl rfl rfl rfl hl.1 rfl (Nat.le_of_ble_eq_true rfl) ⟨Nat.le_of_ble_eq_true rfl, Nat.le_of_ble_eq_true rfl⟩ rfl rfl dX1_flow_72 hw (fun r72 S72 H locs h hw => ?_)
      replace h := h
      refine clVI (As := [.int r72]) (rest := []) (ci := 1) (k := 20) C0 (m_X1_handOn l D ad cI cJ cZ S72 r72 _ h) cal_X1_handOn kw_136 kw_135 kw_134 rfl rfl rfl rfl hl.1 rfl (Nat.le_of_ble_eq_true rfl) ⟨Nat.le_of_ble_eq_true rfl, Nat.le_of_ble_eq_true rfl⟩ rfl rfl dX1_flow_75 hw (fun r75 S75 H locs h hw => ?_)
      replace h := h
      refine lv_if_eq (tgt := 83) hx hb dX1_flow_78 (by decide) (fun c78 => ?_) (fun c78 => ?_)
      · have h := h.1 c78
        replace hl := lv_sub hl [0, 1, 2, 3] rfl
        exact mb_X1_flow_83 C0 _ ih x3 x4 x5 S75 _ _ ls h hw hl
      · have h := h.2 c78
        refine lv_iconst (v := 1) hx hb dX1_flow_81 (by decide) ?_
        refine lv_istore_n (lv' := [(3, .int (1 : Int32)), (0, .ref (ad 20)), (4, .int x4), (5, .int x5)]) hx hb dX1_flow_82 rfl hl (by decide) rfl (fun ls hl => ?_)
        replace hl := lv_sub hl [1, 0, 2, 3] rfl
        exact mb_X1_flow_83 C0 _ ih (1 : Int32) x4 x5 S75 _ _ ls h hw hl
set_option maxHeartbeats 4000000 in
set_option maxRecDepth 100000 in
theorem mb_X1_flow_37 {p : Program} {l : Launch} {e : Env} {s : State} {m : MethodId} {args : Array Value} {below : List Frame} {meth : Method} {c : Code} {D : va_G} {ad : Nat → Nat} {cI cJ cZ : ClassId} {A : Nat → Prop} {post : CS → Prop} (C0 : Cx p s m args meth c cX1_flow 6 RX1 none D cI cJ cZ A) :
 ∀ (n : Nat) (x3 : Int32) (x4 : Int32) (S : CS) (H : Heap) (locs : List Loc) (ls : Array Slot), wp_X1_flow_37 post n x3 x4 S → Wd (WC ad cI cJ cZ) D A s.heap H locs S → lv_has ls 6 [(0, .ref (ad 20)), (3, .int x3), (4, .int x4)] → W p l e rm_X1_flow s m args below meth c H locs 0 0 (QV (WC ad cI cJ cZ) D A s args below post) (F0 m 37 ls []) := by
  have hx := C0.1
  have hb := C0.2.1
  intro n
  induction n with
  | zero => intro x3 x4 S H locs ls h; exact h.elim
  | succ n ih =>
    intro x3 x4 S H locs ls h hw hl
    replace h : ws_X1_flow_37 (wp_X1_flow_37  post n)  post x3 x4 S := h
    unfold ws_X1_flow_37 at h
    refine lv_iload hx hb dX1_flow_37 (lv_at hl 2 rfl) ?_
    refine lv_ldc (v := 144001) hx hb C0.2.2.2.2.1 (C0.2.2.2.2.2.1 _ kw_137) dX1_flow_39 ?_
    refine lv_icmp_ge (tgt := 95) hx hb dX1_flow_41 (by decide) (fun c41 => ?_) (fun c41 => ?_)
    · have h := h.1 c41
      exact rtV C0 hw h dX1_flow_95
    · have h := h.2 c41
      refine lv_iload_n hx hb dX1_flow_44 rfl (lv_at hl 1 rfl) ?_
      refine lv_if_eq (tgt := 95) hx hb dX1_flow_45 (by decide) (fun c45 => ?_) (fun c45 => ?_)
      · have h := h.1 c45
        exact rtV C0 hw h dX1_flow_95
      · have h := h.2 c45
        refine lv_iconst (v := 0) hx hb dX1_flow_48 (by decide) ?_
        refine lv_istore_n (lv' := [(3, .int (0 : Int32)), (0, .ref (ad 20)), (4, .int x4)]) hx hb dX1_flow_49 rfl hl (by decide) rfl (fun ls hl => ?_)
        refine lv_iconst (v := 0) hx hb dX1_flow_50 (by decide) ?_
        refine lv_istore (lv' := [(5, .int (0 : Int32)), (3, .int (0 : Int32)), (0, .ref (ad 20)), (4, .int x4)]) hx hb dX1_flow_51 hl (by decide) rfl (fun ls hl => ?_)
        replace hl := lv_sub hl [2, 1, 3, 0] rfl
        obtain ⟨n, h⟩ := h
        exact mb_X1_flow_53 C0 _ ih n (0 : Int32) x4 (0 : Int32) S _ _ ls h hw hl
set_option maxHeartbeats 4000000 in
set_option maxRecDepth 100000 in
theorem m_X1_flow (l : Launch) (D : va_G) (ad : Nat → Nat) (cI cJ cZ : ClassId) (S : CS) (x1 : Int64) (post : CS → Prop) (h : wp_X1_flow S x1 post) : CV (WC ad cI cJ cZ) D cI cJ cZ l yX1_flow (.code yX1_flow cX1_flow 6 none :: gt) rm_X1_flow S [.ref (ad 20), .long x1] post := by
  refine enV (by decide) (Nat.le_of_ble_eq_true rfl) ?_
  intro p e s m below meth c A ls C0 hw hl
  have C0 : Cx p s m _ meth c cX1_flow 6 RX1 none D cI cJ cZ A := C0
  have hl : lv_has ls 6 [(0, .ref (ad 20)), (1, .long x1)] := hl
  have hx := C0.1
  have hb := C0.2.1
  unfold wp_X1_flow at h
  refine lv_aload_n hx hb dX1_flow_0 rfl (lv_at hl 0 rfl) ?_
  refine gf_X1_onAll C0 hw dX1_flow_1 ?_
  refine lv_ldc2 (v := -1) hx hb C0.2.2.2.2.1 (C0.2.2.2.2.2.1 _ kw_127) dX1_flow_4 ?_
  refine fl_C_onAll (index := 32) C0 kw_138 hl.1 rfl (Nat.le_of_ble_eq_true rfl) ⟨Nat.le_of_ble_eq_true rfl, Nat.le_of_ble_eq_true rfl⟩ dX1_flow_7 hw (fun H locs hw => ?_)
  obtain ⟨S_1, eS_1⟩ : ∃ z, z = sC_onAll S (fl_J 150 (-1 : Int64) (gC_onAll S)) := ⟨_, rfl⟩
  rw [← eS_1] at hw
  have h := h S_1 eS_1
  refine lv_aload_n hx hb dX1_flow_10 rfl (lv_at hl 0 rfl) ?_
  refine gf_X1_onSome C0 hw dX1_flow_11 ?_
  refine lv_lconst (v := 0) hx hb dX1_flow_14 (by decide) ?_
  refine fl_C_onSome (index := 32) C0 kw_138 hl.1 rfl (Nat.le_of_ble_eq_true rfl) ⟨Nat.le_of_ble_eq_true rfl, Nat.le_of_ble_eq_true rfl⟩ dX1_flow_15 hw (fun H locs hw => ?_)
  obtain ⟨S_2, eS_2⟩ : ∃ z, z = sC_onSome S_1 (fl_J 150 (0 : Int64) (gC_onSome S_1)) := ⟨_, rfl⟩
  rw [← eS_2] at hw
  have h := h S_2 eS_2
  refine lv_aload_n hx hb dX1_flow_18 rfl (lv_at hl 0 rfl) ?_
  refine gf_X1_onAll C0 hw dX1_flow_19 ?_
  refine lv_iconst (v := 0) hx hb dX1_flow_22 (by decide) ?_
  refine lv_lload_n hx hb dX1_flow_23 rfl (lv_at hl 1 rfl) ?_
  refine st_C_onAll C0 hw h.1 dX1_flow_24 (fun H locs hw => ?_)
  have h := h.2
  obtain ⟨S_3, eS_3⟩ : ∃ z, z = sC_onAll S_2 (vp_updL (gC_onAll S_2) ((0 : Int32)).toNatClampNeg x1) := ⟨_, rfl⟩
  rw [← eS_3] at hw
  have h := h S_3 eS_3
  refine lv_aload_n hx hb dX1_flow_25 rfl (lv_at hl 0 rfl) ?_
  refine gf_X1_onSome C0 hw dX1_flow_26 ?_
  refine lv_iconst (v := 0) hx hb dX1_flow_29 (by decide) ?_
  refine lv_lload_n hx hb dX1_flow_30 rfl (lv_at hl 1 rfl) ?_
  refine st_C_onSome C0 hw h.1 dX1_flow_31 (fun H locs hw => ?_)
  have h := h.2
  obtain ⟨S_4, eS_4⟩ : ∃ z, z = sC_onSome S_3 (vp_updL (gC_onSome S_3) ((0 : Int32)).toNatClampNeg x1) := ⟨_, rfl⟩
  rw [← eS_4] at hw
  have h := h S_4 eS_4
  refine lv_iconst (v := 1) hx hb dX1_flow_32 (by decide) ?_
  refine lv_istore_n (lv' := [(3, .int (1 : Int32)), (0, .ref (ad 20)), (1, .long x1)]) hx hb dX1_flow_33 rfl hl (by decide) rfl (fun ls hl => ?_)
  refine lv_iconst (v := 0) hx hb dX1_flow_34 (by decide) ?_
  refine lv_istore (lv' := [(4, .int (0 : Int32)), (3, .int (1 : Int32)), (0, .ref (ad 20)), (1, .long x1)]) hx hb dX1_flow_35 hl (by decide) rfl (fun ls hl => ?_)
  replace hl := lv_sub hl [2, 1, 0] rfl
  obtain ⟨n, h⟩ := h
  exact mb_X1_flow_37 C0 n (1 : Int32) (0 : Int32) S_4 _ _ ls h hw hl
abbrev rm_X1_missing : Room := { frames := 1, cells := 0, slots := 0, locals := 21 }
set_option maxHeartbeats 4000000 in
set_option maxRecDepth 100000 in
theorem m_X1_missing (l : Launch) (D : va_G) (ad : Nat → Nat) (cI cJ cZ : ClassId) (S : CS) (x1 : Int32) (post : Int64 → CS → Prop) (h : wp_X1_missing S x1 post) : CL (WC ad cI cJ cZ) D cI cJ cZ l yX1_missing (.code yX1_missing cX1_missing 2 (some .long) :: gt) rm_X1_missing S [.ref (ad 20), .int x1] post := by
  refine enL (by decide) (Nat.le_of_ble_eq_true rfl) ?_
  intro p e s m below meth c A ls C0 hw hl
  have C0 : Cx p s m _ meth c cX1_missing 2 RX1 (some .long) D cI cJ cZ A := C0
  have hl : lv_has ls 2 [(0, .ref (ad 20)), (1, .int x1)] := hl
  have hx := C0.1
  have hb := C0.2.1
  unfold wp_X1_missing at h
  refine lv_aload_n hx hb dX1_missing_0 rfl (lv_at hl 0 rfl) ?_
  refine gf_X1_ways C0 hw dX1_missing_1 ?_
  refine lv_iload_n hx hb dX1_missing_4 rfl (lv_at hl 1 rfl) ?_
  refine clVI (As := [.int x1]) (rest := []) (ci := 4) (k := 14) C0 (m_X5_comeTo l D ad cI cJ cZ S x1 _ h) cal_X5_comeTo kw_147 kw_146 kw_145 rfl rfl rfl rfl hl.1 rfl (Nat.le_of_ble_eq_true rfl) ⟨Nat.le_of_ble_eq_true rfl, Nat.le_of_ble_eq_true rfl⟩ rfl rfl dX1_missing_5 hw (fun r5 S5 H locs h hw => ?_)
  replace h := h
  refine lv_if_eq (tgt := 33) hx hb dX1_missing_8 (by decide) (fun c8 => ?_) (fun c8 => ?_)
  · have h := h.1 c8
    refine lv_lconst (v := 0) hx hb dX1_missing_33 (by decide) ?_
    exact rtL C0 hw h dX1_missing_34
  · have h := h.2 c8
    refine lv_aload_n hx hb dX1_missing_11 rfl (lv_at hl 0 rfl) ?_
    refine gf_X1_acts C0 hw dX1_missing_12 ?_
    refine lv_iload_n hx hb dX1_missing_15 rfl (lv_at hl 1 rfl) ?_
    refine clVL (As := [.int x1]) (rest := []) (ci := 0) (k := 4) C0 (m_X0_wantedAt l D ad cI cJ cZ S5 x1 _ h) cal_X0_wantedAt kw_150 kw_149 kw_148 rfl rfl rfl rfl hl.1 rfl (Nat.le_of_ble_eq_true rfl) ⟨Nat.le_of_ble_eq_true rfl, Nat.le_of_ble_eq_true rfl⟩ rfl rfl dX1_missing_16 hw (fun r16 S16 H locs h hw => ?_)
    replace h := h
    refine lv_aload_n hx hb dX1_missing_19 rfl (lv_at hl 0 rfl) ?_
    refine gf_X1_onAll C0 hw dX1_missing_20 ?_
    refine lv_iload_n hx hb dX1_missing_23 rfl (lv_at hl 1 rfl) ?_
    refine ld_C_onAll C0 hw h.1 dX1_missing_24 ?_
    have h := h.2
    refine lv_ldc2 (v := -1) hx hb C0.2.2.2.2.1 (C0.2.2.2.2.2.1 _ kw_127) dX1_missing_25 ?_
    refine lv_lxor hx hb dX1_missing_28 ?_
    refine lv_land hx hb dX1_missing_29 ?_
    refine lv_goto (tgt := 34) hx hb dX1_missing_30 (by decide) ?_
    exact rtL C0 hw h dX1_missing_34
abbrev rm_X2_number : Room := { frames := 4, cells := 0, slots := 0, locals := 84 }
set_option maxHeartbeats 4000000 in
set_option maxRecDepth 100000 in
theorem mb_X2_number_139 {p : Program} {l : Launch} {e : Env} {s : State} {m : MethodId} {args : Array Value} {below : List Frame} {meth : Method} {c : Code} {D : va_G} {ad : Nat → Nat} {cI cJ cZ : ClassId} {A : Nat → Prop} {post : CS → Prop} (C0 : Cx p s m args meth c cX2_number 2 RX2 none D cI cJ cZ A) (K28 : Int32 → CS → Prop) (hK28 : ∀ (x1 : Int32) (S : CS) (H : Heap) (locs : List Loc) (ls : Array Slot), K28 x1 S → Wd (WC ad cI cJ cZ) D A s.heap H locs S → lv_has ls 2 [(0, .ref (ad 24)), (1, .int x1)] → W p l e rm_X2_number s m args below meth c H locs 0 0 (QV (WC ad cI cJ cZ) D A s args below post) (F0 m 28 ls [])) :
 ∀ (x1 : Int32) (S : CS) (H : Heap) (locs : List Loc) (ls : Array Slot), wp_X2_number_139 K28 post x1 S → Wd (WC ad cI cJ cZ) D A s.heap H locs S → lv_has ls 2 [(0, .ref (ad 24)), (1, .int x1)] → W p l e rm_X2_number s m args below meth c H locs 0 0 (QV (WC ad cI cJ cZ) D A s args below post) (F0 m 139 ls []) := by
  have hx := C0.1
  have hb := C0.2.1
  intro x1 S H locs ls h hw hl
  unfold wp_X2_number_139 at h
  obtain ⟨x1_1, ex1_1⟩ : ∃ y : Int32, y = x1 + (1 : Int32) := ⟨_, rfl⟩
  refine lv_iinc (v := x1_1) (lv' := [(1, .int x1_1), (0, .ref (ad 24))]) hx hb dX2_number_139 hl (k := 1) rfl (by rw [ex1_1]; rfl) (by decide) rfl (fun ls hl => ?_)
  have h := h x1_1 ex1_1
  refine lv_goto (tgt := 28) hx hb dX2_number_142 (by decide) ?_
  replace hl := lv_sub hl [1, 0] rfl
  exact hK28 x1_1 S _ _ _ h hw hl
set_option maxHeartbeats 4000000 in
set_option maxRecDepth 100000 in
theorem mb_X2_number_135 {p : Program} {l : Launch} {e : Env} {s : State} {m : MethodId} {args : Array Value} {below : List Frame} {meth : Method} {c : Code} {D : va_G} {ad : Nat → Nat} {cI cJ cZ : ClassId} {A : Nat → Prop} {post : CS → Prop} (C0 : Cx p s m args meth c cX2_number 2 RX2 none D cI cJ cZ A) (K139 : Int32 → CS → Prop) (hK139 : ∀ (x1 : Int32) (S : CS) (H : Heap) (locs : List Loc) (ls : Array Slot), K139 x1 S → Wd (WC ad cI cJ cZ) D A s.heap H locs S → lv_has ls 2 [(0, .ref (ad 24)), (1, .int x1)] → W p l e rm_X2_number s m args below meth c H locs 0 0 (QV (WC ad cI cJ cZ) D A s args below post) (F0 m 139 ls [])) :
 ∀ (x1 : Int32) (k0 : Int64) (k1 : Int64) (S : CS) (H : Heap) (locs : List Loc) (ls : Array Slot), wp_X2_number_135 K139 post x1 k0 k1 S → Wd (WC ad cI cJ cZ) D A s.heap H locs S → lv_has ls 2 [(0, .ref (ad 24)), (1, .int x1)] → W p l e rm_X2_number s m args below meth c H locs 0 0 (QV (WC ad cI cJ cZ) D A s args below post) (F0 m 135 ls [.long k0, .long k1, .ref (ad 24)]) := by
  have hx := C0.1
  have hb := C0.2.1
  intro x1 k0 k1 S H locs ls h hw hl
  unfold wp_X2_number_135 at h
  refine lv_lor hx hb dX2_number_135 ?_
  refine pf_X2_soleLoans C0 hw dX2_number_136 (fun H locs hw => ?_)
  obtain ⟨S_1, eS_1⟩ : ∃ z, z = sC_soleL S (k1 ||| k0) := ⟨_, rfl⟩
  rw [← eS_1] at hw
  have h := h S_1 eS_1
  replace hl := lv_sub hl [0, 1] rfl
  exact hK139 x1 S_1 _ _ _ h hw hl
set_option maxHeartbeats 4000000 in
set_option maxRecDepth 100000 in
theorem mb_X2_number_28 {p : Program} {l : Launch} {e : Env} {s : State} {m : MethodId} {args : Array Value} {below : List Frame} {meth : Method} {c : Code} {D : va_G} {ad : Nat → Nat} {cI cJ cZ : ClassId} {A : Nat → Prop} {post : CS → Prop} (C0 : Cx p s m args meth c cX2_number 2 RX2 none D cI cJ cZ A) :
 ∀ (n : Nat) (x1 : Int32) (S : CS) (H : Heap) (locs : List Loc) (ls : Array Slot), wp_X2_number_28 post n x1 S → Wd (WC ad cI cJ cZ) D A s.heap H locs S → lv_has ls 2 [(0, .ref (ad 24)), (1, .int x1)] → W p l e rm_X2_number s m args below meth c H locs 0 0 (QV (WC ad cI cJ cZ) D A s args below post) (F0 m 28 ls []) := by
  have hx := C0.1
  have hb := C0.2.1
  intro n
  induction n with
  | zero => intro x1 S H locs ls h; exact h.elim
  | succ n ih =>
    intro x1 S H locs ls h hw hl
    replace h : ws_X2_number_28 (wp_X2_number_28  post n)  post x1 S := h
    unfold ws_X2_number_28 at h
    refine lv_iload_n hx hb dX2_number_28 rfl (lv_at hl 1 rfl) ?_
    refine lv_sipush (v := 150) hx hb dX2_number_29 (by decide) ?_
    refine lv_icmp_ge (tgt := 145) hx hb dX2_number_32 (by decide) (fun c32 => ?_) (fun c32 => ?_)
    · have h := h.1 c32
      exact rtV C0 hw h dX2_number_145
    · have h := h.2 c32
      refine lv_aload_n hx hb dX2_number_35 rfl (lv_at hl 0 rfl) ?_
      refine gf_X2_made C0 hw dX2_number_36 ?_
      refine lv_bipush (v := 60) hx hb dX2_number_39 (by decide) ?_
      refine lv_icmp_ge (tgt := 145) hx hb dX2_number_41 (by decide) (fun c41 => ?_) (fun c41 => ?_)
      · have h := h.1 c41
        exact rtV C0 hw h dX2_number_145
      · have h := h.2 c41
        refine lv_aload_n hx hb dX2_number_44 rfl (lv_at hl 0 rfl) ?_
        refine gf_X2_acts C0 hw dX2_number_45 ?_
        refine lv_iload_n hx hb dX2_number_48 rfl (lv_at hl 1 rfl) ?_
        refine clVI (As := [.int x1]) (rest := []) (ci := 0) (k := 4) C0 (m_X0_makesLoan l D ad cI cJ cZ S x1 _ h) cal_X0_makesLoan kw_160 kw_159 kw_158 rfl rfl rfl rfl hl.1 rfl (Nat.le_of_ble_eq_true rfl) ⟨Nat.le_of_ble_eq_true rfl, Nat.le_of_ble_eq_true rfl⟩ rfl rfl dX2_number_49 hw (fun r49 S49 H locs h hw => ?_)
        replace h := h
        refine lv_if_eq (tgt := 139) hx hb dX2_number_52 (by decide) (fun c52 => ?_) (fun c52 => ?_)
        · have h := h.1 c52
          replace hl := lv_sub hl [0, 1] rfl
          exact mb_X2_number_139 C0 _ ih x1 S49 _ _ ls h hw hl
        · have h := h.2 c52
          refine lv_aload_n hx hb dX2_number_55 rfl (lv_at hl 0 rfl) ?_
          refine gf_X2_bits C0 hw dX2_number_56 ?_
          refine lv_iload_n hx hb dX2_number_59 rfl (lv_at hl 1 rfl) ?_
          refine lv_lconst (v := 1) hx hb dX2_number_60 (by decide) ?_
          refine lv_aload_n hx hb dX2_number_61 rfl (lv_at hl 0 rfl) ?_
          refine gf_X2_made C0 hw dX2_number_62 ?_
          refine lv_lshl hx hb dX2_number_65 rfl ?_
          refine st_C_bits C0 hw h.1 dX2_number_66 (fun H locs hw => ?_)
          have h := h.2
          obtain ⟨S_1, eS_1⟩ : ∃ z, z = sC_bits S49 (vp_updL (gC_bits S49) (x1).toNatClampNeg ((1 : Int64) <<< ((gC_lmade S49).toInt64 &&& 63))) := ⟨_, rfl⟩
          rw [← eS_1] at hw
          have h := h S_1 eS_1
          refine lv_aload_n hx hb dX2_number_67 rfl (lv_at hl 0 rfl) ?_
          refine gf_X2_makers C0 hw dX2_number_68 ?_
          refine lv_aload_n hx hb dX2_number_71 rfl (lv_at hl 0 rfl) ?_
          refine gf_X2_made C0 hw dX2_number_72 ?_
          refine lv_iload_n hx hb dX2_number_75 rfl (lv_at hl 1 rfl) ?_
          refine st_C_makers C0 hw h.1 dX2_number_76 (fun H locs hw => ?_)
          have h := h.2
          obtain ⟨S_2, eS_2⟩ : ∃ z, z = sC_makers S_1 (upd (gC_makers S_1) (gC_lmade S_1).toNatClampNeg x1) := ⟨_, rfl⟩
          rw [← eS_2] at hw
          have h := h S_2 eS_2
          refine lv_aload_n hx hb dX2_number_77 rfl (lv_at hl 0 rfl) ?_
          refine lv_dup hx hb dX2_number_78 rfl ?_
          refine gf_X2_made C0 hw dX2_number_79 ?_
          refine lv_iconst (v := 1) hx hb dX2_number_82 (by decide) ?_
          refine lv_iadd hx hb dX2_number_83 ?_
          refine pf_X2_made C0 hw dX2_number_84 (fun H locs hw => ?_)
          obtain ⟨S_3, eS_3⟩ : ∃ z, z = sC_lmade S_2 ((gC_lmade S_2) + (1 : Int32)) := ⟨_, rfl⟩
          rw [← eS_3] at hw
          have h := h S_3 eS_3
          refine lv_aload_n hx hb dX2_number_87 rfl (lv_at hl 0 rfl) ?_
          refine gf_X2_loansOf C0 hw dX2_number_88 ?_
          refine lv_aload_n hx hb dX2_number_91 rfl (lv_at hl 0 rfl) ?_
          refine gf_X2_acts C0 hw dX2_number_92 ?_
          refine lv_iload_n hx hb dX2_number_95 rfl (lv_at hl 1 rfl) ?_
          refine clVI (As := [.int x1]) (rest := [.ref (ad 27)]) (ci := 0) (k := 4) C0 (m_X0_variableAt l D ad cI cJ cZ S_3 x1 _ h) cal_X0_variableAt kw_163 kw_162 kw_161 rfl rfl rfl rfl hl.1 rfl (Nat.le_of_ble_eq_true rfl) ⟨Nat.le_of_ble_eq_true rfl, Nat.le_of_ble_eq_true rfl⟩ rfl rfl dX2_number_96 hw (fun r96 S96 H locs h hw => ?_)
          replace h := h
          refine lv_dup2_11 hx hb dX2_number_99 rfl rfl ?_
          refine ld_C_loansOf C0 hw h.1 dX2_number_100 ?_
          have h := h.2
          refine lv_aload_n hx hb dX2_number_101 rfl (lv_at hl 0 rfl) ?_
          refine gf_X2_bits C0 hw dX2_number_102 ?_
          refine lv_iload_n hx hb dX2_number_105 rfl (lv_at hl 1 rfl) ?_
          refine ld_C_bits C0 hw h.1 dX2_number_106 ?_
          have h := h.2
          refine lv_lor hx hb dX2_number_107 ?_
          refine st_C_loansOf C0 hw h.1 dX2_number_108 (fun H locs hw => ?_)
          have h := h.2
          obtain ⟨S_4, eS_4⟩ : ∃ z, z = sC_loansOf S96 (vp_updL (gC_loansOf S96) (r96).toNatClampNeg ((gC_loansOf S96 (r96).toNatClampNeg) ||| (gC_bits S96 (x1).toNatClampNeg))) := ⟨_, rfl⟩
          rw [← eS_4] at hw
          have h := h S_4 eS_4
          refine lv_aload_n hx hb dX2_number_109 rfl (lv_at hl 0 rfl) ?_
          refine lv_dup hx hb dX2_number_110 rfl ?_
          refine gf_X2_soleLoans C0 hw dX2_number_111 ?_
          refine lv_aload_n hx hb dX2_number_114 rfl (lv_at hl 0 rfl) ?_
          refine gf_X2_acts C0 hw dX2_number_115 ?_
          refine lv_iload_n hx hb dX2_number_118 rfl (lv_at hl 1 rfl) ?_
          refine clVI (As := [.int x1]) (rest := [.long (gC_soleL S_4), .ref (ad 24)]) (ci := 0) (k := 4) C0 (m_X0_makesSoleLoan l D ad cI cJ cZ S_4 x1 _ h) cal_X0_makesSoleLoan kw_167 kw_166 kw_165 rfl rfl rfl rfl hl.1 rfl (Nat.le_of_ble_eq_true rfl) ⟨Nat.le_of_ble_eq_true rfl, Nat.le_of_ble_eq_true rfl⟩ rfl rfl dX2_number_119 hw (fun r119 S119 H locs h hw => ?_)
          replace h := h
          refine lv_if_eq (tgt := 134) hx hb dX2_number_122 (by decide) (fun c122 => ?_) (fun c122 => ?_)
          · have h := h.1 c122
            refine lv_lconst (v := 0) hx hb dX2_number_134 (by decide) ?_
            replace hl := lv_sub hl [0, 1] rfl
            exact mb_X2_number_135 C0 _ (fun x1 S H locs ls h hw hl => mb_X2_number_139 C0 _ ih x1 S _ _ ls h hw hl) x1 (0 : Int64) (gC_soleL S_4) S119 _ _ ls h hw hl
          · have h := h.2 c122
            refine lv_aload_n hx hb dX2_number_125 rfl (lv_at hl 0 rfl) ?_
            refine gf_X2_bits C0 hw dX2_number_126 ?_
            refine lv_iload_n hx hb dX2_number_129 rfl (lv_at hl 1 rfl) ?_
            refine ld_C_bits C0 hw h.1 dX2_number_130 ?_
            have h := h.2
            refine lv_goto (tgt := 135) hx hb dX2_number_131 (by decide) ?_
            replace hl := lv_sub hl [0, 1] rfl
            exact mb_X2_number_135 C0 _ (fun x1 S H locs ls h hw hl => mb_X2_number_139 C0 _ ih x1 S _ _ ls h hw hl) x1 (gC_bits S119 (x1).toNatClampNeg) (gC_soleL S_4) S119 _ _ ls h hw hl
set_option maxHeartbeats 4000000 in
set_option maxRecDepth 100000 in
theorem m_X2_number (l : Launch) (D : va_G) (ad : Nat → Nat) (cI cJ cZ : ClassId) (S : CS)  (post : CS → Prop) (h : wp_X2_number S  post) : CV (WC ad cI cJ cZ) D cI cJ cZ l yX2_number (.code yX2_number cX2_number 2 none :: gt) rm_X2_number S [.ref (ad 24)] post := by
  refine enV (by decide) (Nat.le_of_ble_eq_true rfl) ?_
  intro p e s m below meth c A ls C0 hw hl
  have C0 : Cx p s m _ meth c cX2_number 2 RX2 none D cI cJ cZ A := C0
  have hl : lv_has ls 2 [(0, .ref (ad 24))] := hl
  have hx := C0.1
  have hb := C0.2.1
  unfold wp_X2_number at h
  refine lv_aload_n hx hb dX2_number_0 rfl (lv_at hl 0 rfl) ?_
  refine gf_X2_bits C0 hw dX2_number_1 ?_
  refine lv_lconst (v := 0) hx hb dX2_number_4 (by decide) ?_
  refine fl_C_bits (index := 43) C0 kw_168 hl.1 rfl (Nat.le_of_ble_eq_true rfl) ⟨Nat.le_of_ble_eq_true rfl, Nat.le_of_ble_eq_true rfl⟩ dX2_number_5 hw (fun H locs hw => ?_)
  obtain ⟨S_1, eS_1⟩ : ∃ z, z = sC_bits S (fl_J 150 (0 : Int64) (gC_bits S)) := ⟨_, rfl⟩
  rw [← eS_1] at hw
  have h := h S_1 eS_1
  refine lv_aload_n hx hb dX2_number_8 rfl (lv_at hl 0 rfl) ?_
  refine gf_X2_loansOf C0 hw dX2_number_9 ?_
  refine lv_lconst (v := 0) hx hb dX2_number_12 (by decide) ?_
  refine fl_C_loansOf (index := 43) C0 kw_168 hl.1 rfl (Nat.le_of_ble_eq_true rfl) ⟨Nat.le_of_ble_eq_true rfl, Nat.le_of_ble_eq_true rfl⟩ dX2_number_13 hw (fun H locs hw => ?_)
  obtain ⟨S_2, eS_2⟩ : ∃ z, z = sC_loansOf S_1 (fl_J 16 (0 : Int64) (gC_loansOf S_1)) := ⟨_, rfl⟩
  rw [← eS_2] at hw
  have h := h S_2 eS_2
  refine lv_aload_n hx hb dX2_number_16 rfl (lv_at hl 0 rfl) ?_
  refine lv_lconst (v := 0) hx hb dX2_number_17 (by decide) ?_
  refine pf_X2_soleLoans C0 hw dX2_number_18 (fun H locs hw => ?_)
  obtain ⟨S_3, eS_3⟩ : ∃ z, z = sC_soleL S_2 (0 : Int64) := ⟨_, rfl⟩
  rw [← eS_3] at hw
  have h := h S_3 eS_3
  refine lv_aload_n hx hb dX2_number_21 rfl (lv_at hl 0 rfl) ?_
  refine lv_iconst (v := 0) hx hb dX2_number_22 (by decide) ?_
  refine pf_X2_made C0 hw dX2_number_23 (fun H locs hw => ?_)
  obtain ⟨S_4, eS_4⟩ : ∃ z, z = sC_lmade S_3 (0 : Int32) := ⟨_, rfl⟩
  rw [← eS_4] at hw
  have h := h S_4 eS_4
  refine lv_iconst (v := 0) hx hb dX2_number_26 (by decide) ?_
  refine lv_istore_n (lv' := [(1, .int (0 : Int32)), (0, .ref (ad 24))]) hx hb dX2_number_27 rfl hl (by decide) rfl (fun ls hl => ?_)
  replace hl := lv_sub hl [1, 0] rfl
  obtain ⟨n, h⟩ := h
  exact mb_X2_number_28 C0 n (0 : Int32) S_4 _ _ ls h hw hl
abbrev rm_X2_takeOver : Room := { frames := 1, cells := 0, slots := 0, locals := 20 }
set_option maxHeartbeats 4000000 in
set_option maxRecDepth 100000 in
theorem mb_X2_takeOver_64 {p : Program} {l : Launch} {e : Env} {s : State} {m : MethodId} {args : Array Value} {below : List Frame} {meth : Method} {c : Code} {D : va_G} {ad : Nat → Nat} {cI cJ cZ : ClassId} {A : Nat → Prop} {post : Int32 → CS → Prop} (C0 : Cx p s m args meth c cX2_takeOver 5 RX2 (some .boolean) D cI cJ cZ A) (K4 : Int32 → Int32 → Int32 → CS → Prop) (hK4 : ∀ (x1 : Int32) (x2 : Int32) (x3 : Int32) (S : CS) (H : Heap) (locs : List Loc) (ls : Array Slot), K4 x1 x2 x3 S → Wd (WC ad cI cJ cZ) D A s.heap H locs S → lv_has ls 5 [(0, .ref (ad 24)), (1, .int x1), (2, .int x2), (3, .int x3)] → W p l e rm_X2_takeOver s m args below meth c H locs 0 0 (QI (WC ad cI cJ cZ) D A s args below post) (F0 m 4 ls [])) :
 ∀ (x1 : Int32) (x2 : Int32) (x3 : Int32) (S : CS) (H : Heap) (locs : List Loc) (ls : Array Slot), wp_X2_takeOver_64 K4 post x1 x2 x3 S → Wd (WC ad cI cJ cZ) D A s.heap H locs S → lv_has ls 5 [(0, .ref (ad 24)), (1, .int x1), (2, .int x2), (3, .int x3)] → W p l e rm_X2_takeOver s m args below meth c H locs 0 0 (QI (WC ad cI cJ cZ) D A s args below post) (F0 m 64 ls []) := by
  have hx := C0.1
  have hb := C0.2.1
  intro x1 x2 x3 S H locs ls h hw hl
  unfold wp_X2_takeOver_64 at h
  obtain ⟨x3_1, ex3_1⟩ : ∃ y : Int32, y = x3 + (1 : Int32) := ⟨_, rfl⟩
  refine lv_iinc (v := x3_1) (lv' := [(3, .int x3_1), (0, .ref (ad 24)), (1, .int x1), (2, .int x2)]) hx hb dX2_takeOver_64 hl (k := 3) rfl (by rw [ex3_1]; rfl) (by decide) rfl (fun ls hl => ?_)
  have h := h x3_1 ex3_1
  refine lv_goto (tgt := 4) hx hb dX2_takeOver_67 (by decide) ?_
  replace hl := lv_sub hl [1, 2, 3, 0] rfl
  exact hK4 x1 x2 x3_1 S _ _ _ h hw hl
set_option maxHeartbeats 4000000 in
set_option maxRecDepth 100000 in
theorem mb_X2_takeOver_4 {p : Program} {l : Launch} {e : Env} {s : State} {m : MethodId} {args : Array Value} {below : List Frame} {meth : Method} {c : Code} {D : va_G} {ad : Nat → Nat} {cI cJ cZ : ClassId} {A : Nat → Prop} {post : Int32 → CS → Prop} (C0 : Cx p s m args meth c cX2_takeOver 5 RX2 (some .boolean) D cI cJ cZ A) :
 ∀ (n : Nat) (x1 : Int32) (x2 : Int32) (x3 : Int32) (S : CS) (H : Heap) (locs : List Loc) (ls : Array Slot), wp_X2_takeOver_4 post n x1 x2 x3 S → Wd (WC ad cI cJ cZ) D A s.heap H locs S → lv_has ls 5 [(0, .ref (ad 24)), (1, .int x1), (2, .int x2), (3, .int x3)] → W p l e rm_X2_takeOver s m args below meth c H locs 0 0 (QI (WC ad cI cJ cZ) D A s args below post) (F0 m 4 ls []) := by
  have hx := C0.1
  have hb := C0.2.1
  intro n
  induction n with
  | zero => intro x1 x2 x3 S H locs ls h; exact h.elim
  | succ n ih =>
    intro x1 x2 x3 S H locs ls h hw hl
    replace h : ws_X2_takeOver_4 (wp_X2_takeOver_4  post n)  post x1 x2 x3 S := h
    unfold ws_X2_takeOver_4 at h
    refine lv_iload_n hx hb dX2_takeOver_4 rfl (lv_at hl 3 rfl) ?_
    refine lv_aload_n hx hb dX2_takeOver_5 rfl (lv_at hl 0 rfl) ?_
    refine gf_X2_variables C0 hw dX2_takeOver_6 ?_
    refine clVI (As := []) (rest := [.int x3]) (ci := 3) (k := 1) C0 (m_X4_size l D ad cI cJ cZ S _ h) cal_X4_size kw_178 kw_177 kw_176 rfl rfl rfl rfl hl.1 rfl (Nat.le_of_ble_eq_true rfl) ⟨Nat.le_of_ble_eq_true rfl, Nat.le_of_ble_eq_true rfl⟩ rfl rfl dX2_takeOver_9 hw (fun r9 S9 H locs h hw => ?_)
    replace h := h
    refine lv_icmp_ge (tgt := 70) hx hb dX2_takeOver_12 (by decide) (fun c12 => ?_) (fun c12 => ?_)
    · have h := h.1 c12
      refine lv_iload_n hx hb dX2_takeOver_70 rfl (lv_at hl 2 rfl) ?_
      exact rtZ C0 hw (isb_n h.1) h.2 dX2_takeOver_71
    · have h := h.2 c12
      refine lv_iload_n hx hb dX2_takeOver_15 rfl (lv_at hl 1 rfl) ?_
      refine lv_bipush (v := 16) hx hb dX2_takeOver_16 (by decide) ?_
      refine lv_imul hx hb dX2_takeOver_18 ?_
      refine lv_iload_n hx hb dX2_takeOver_19 rfl (lv_at hl 3 rfl) ?_
      refine lv_iadd hx hb dX2_takeOver_20 ?_
      refine lv_topi (fun x4_1 ex4_1 => ?_)
      have h := h x4_1 ex4_1
      refine lv_istore (lv' := [(4, .int x4_1), (0, .ref (ad 24)), (1, .int x1), (2, .int x2), (3, .int x3)]) hx hb dX2_takeOver_21 hl (by decide) rfl (fun ls hl => ?_)
      refine lv_aload_n hx hb dX2_takeOver_23 rfl (lv_at hl 1 rfl) ?_
      refine gf_X2_handed C0 hw dX2_takeOver_24 ?_
      refine lv_iload_n hx hb dX2_takeOver_27 rfl (lv_at hl 4 rfl) ?_
      refine ld_C_handed C0 hw h.1 dX2_takeOver_28 ?_
      have h := h.2
      refine lv_aload_n hx hb dX2_takeOver_29 rfl (lv_at hl 1 rfl) ?_
      refine gf_X2_holdings C0 hw dX2_takeOver_30 ?_
      refine lv_iload hx hb dX2_takeOver_33 (lv_at hl 0 rfl) ?_
      refine ld_C_holdings C0 hw h.1 dX2_takeOver_35 ?_
      have h := h.2
      refine lv_ldc2 (v := -1) hx hb C0.2.2.2.2.1 (C0.2.2.2.2.2.1 _ kw_179) dX2_takeOver_36 ?_
      refine lv_lxor hx hb dX2_takeOver_39 ?_
      refine lv_land hx hb dX2_takeOver_40 ?_
      refine lv_lconst (v := 0) hx hb dX2_takeOver_41 (by decide) ?_
      refine W.lcmp hx hb dX2_takeOver_42 ?_
      refine lv_if_eq (tgt := 64) hx hb dX2_takeOver_43 (by decide) (fun c43 => ?_) (fun c43 => ?_)
      · have h := h.1 c43
        replace hl := lv_sub hl [1, 2, 3, 4] rfl
        exact mb_X2_takeOver_64 C0 _ ih x1 x2 x3 S9 _ _ ls h hw hl
      · have h := h.2 c43
        refine lv_aload_n hx hb dX2_takeOver_46 rfl (lv_at hl 1 rfl) ?_
        refine gf_X2_holdings C0 hw dX2_takeOver_47 ?_
        refine lv_iload hx hb dX2_takeOver_50 (lv_at hl 0 rfl) ?_
        refine lv_dup2_11 hx hb dX2_takeOver_52 rfl rfl ?_
        refine ld_C_holdings C0 hw h.1 dX2_takeOver_53 ?_
        have h := h.2
        refine lv_aload_n hx hb dX2_takeOver_54 rfl (lv_at hl 1 rfl) ?_
        refine gf_X2_handed C0 hw dX2_takeOver_55 ?_
        refine lv_iload_n hx hb dX2_takeOver_58 rfl (lv_at hl 4 rfl) ?_
        refine ld_C_handed C0 hw h.1 dX2_takeOver_59 ?_
        have h := h.2
        refine lv_lor hx hb dX2_takeOver_60 ?_
        refine st_C_holdings C0 hw h.1 dX2_takeOver_61 (fun H locs hw => ?_)
        have h := h.2
        obtain ⟨S_2, eS_2⟩ : ∃ z, z = sC_holdings S9 (vp_updL (gC_holdings S9) (x4_1).toNatClampNeg ((gC_holdings S9 (x4_1).toNatClampNeg) ||| (gC_handed S9 (x3).toNatClampNeg))) := ⟨_, rfl⟩
        rw [← eS_2] at hw
        have h := h S_2 eS_2
        refine lv_iconst (v := 1) hx hb dX2_takeOver_62 (by decide) ?_
        refine lv_istore_n (lv' := [(2, .int (1 : Int32)), (4, .int x4_1), (0, .ref (ad 24)), (1, .int x1), (3, .int x3)]) hx hb dX2_takeOver_63 rfl hl (by decide) rfl (fun ls hl => ?_)
        replace hl := lv_sub hl [2, 3, 0, 4] rfl
        exact mb_X2_takeOver_64 C0 _ ih x1 (1 : Int32) x3 S_2 _ _ ls h hw hl
set_option maxHeartbeats 4000000 in
set_option maxRecDepth 100000 in
theorem m_X2_takeOver (l : Launch) (D : va_G) (ad : Nat → Nat) (cI cJ cZ : ClassId) (S : CS) (x1 : Int32) (post : Int32 → CS → Prop) (h : wp_X2_takeOver S x1 post) : CI (WC ad cI cJ cZ) D cI cJ cZ l yX2_takeOver (.code yX2_takeOver cX2_takeOver 5 (some .boolean) :: gt) rm_X2_takeOver S [.ref (ad 24), .int x1] post := by
  refine enI (by decide) (Nat.le_of_ble_eq_true rfl) ?_
  intro p e s m below meth c A ls C0 hw hl
  have C0 : Cx p s m _ meth c cX2_takeOver 5 RX2 (some .boolean) D cI cJ cZ A := C0
  have hl : lv_has ls 5 [(0, .ref (ad 24)), (1, .int x1)] := hl
  have hx := C0.1
  have hb := C0.2.1
  unfold wp_X2_takeOver at h
  refine lv_iconst (v := 0) hx hb dX2_takeOver_0 (by decide) ?_
  refine lv_istore_n (lv' := [(2, .int (0 : Int32)), (0, .ref (ad 24)), (1, .int x1)]) hx hb dX2_takeOver_1 rfl hl (by decide) rfl (fun ls hl => ?_)
  refine lv_iconst (v := 0) hx hb dX2_takeOver_2 (by decide) ?_
  refine lv_istore_n (lv' := [(3, .int (0 : Int32)), (2, .int (0 : Int32)), (0, .ref (ad 24)), (1, .int x1)]) hx hb dX2_takeOver_3 rfl hl (by decide) rfl (fun ls hl => ?_)
  replace hl := lv_sub hl [2, 3, 1, 0] rfl
  obtain ⟨n, h⟩ := h
  exact mb_X2_takeOver_4 C0 n x1 (0 : Int32) (0 : Int32) S _ _ ls h hw hl
abbrev rm_X2_renew : Room := { frames := 1, cells := 0, slots := 0, locals := 21 }
set_option maxHeartbeats 4000000 in
set_option maxRecDepth 100000 in
theorem mb_X2_renew_55 {p : Program} {l : Launch} {e : Env} {s : State} {m : MethodId} {args : Array Value} {below : List Frame} {meth : Method} {c : Code} {D : va_G} {ad : Nat → Nat} {cI cJ cZ : ClassId} {A : Nat → Prop} {post : CS → Prop} (C0 : Cx p s m args meth c cX2_renew 5 RX2 none D cI cJ cZ A) :
 ∀ (n : Nat) (x2 : Int32) (x4 : Int32) (S : CS) (H : Heap) (locs : List Loc) (ls : Array Slot), wp_X2_renew_55 post n x2 x4 S → Wd (WC ad cI cJ cZ) D A s.heap H locs S → lv_has ls 5 [(0, .ref (ad 24)), (2, .int x2), (4, .int x4)] → W p l e rm_X2_renew s m args below meth c H locs 0 0 (QV (WC ad cI cJ cZ) D A s args below post) (F0 m 55 ls []) := by
  have hx := C0.1
  have hb := C0.2.1
  intro n
  induction n with
  | zero => intro x2 x4 S H locs ls h; exact h.elim
  | succ n ih =>
    intro x2 x4 S H locs ls h hw hl
    replace h : ws_X2_renew_55 (wp_X2_renew_55  post n)  post x2 x4 S := h
    unfold ws_X2_renew_55 at h
    refine lv_iload hx hb dX2_renew_55 (lv_at hl 2 rfl) ?_
    refine lv_aload_n hx hb dX2_renew_57 rfl (lv_at hl 0 rfl) ?_
    refine gf_X2_variables C0 hw dX2_renew_58 ?_
    refine clVI (As := []) (rest := [.int x4]) (ci := 3) (k := 1) C0 (m_X4_size l D ad cI cJ cZ S _ h) cal_X4_size kw_178 kw_177 kw_176 rfl rfl rfl rfl hl.1 rfl (Nat.le_of_ble_eq_true rfl) ⟨Nat.le_of_ble_eq_true rfl, Nat.le_of_ble_eq_true rfl⟩ rfl rfl dX2_renew_61 hw (fun r61 S61 H locs h hw => ?_)
    replace h := h
    refine lv_icmp_ge (tgt := 93) hx hb dX2_renew_64 (by decide) (fun c64 => ?_) (fun c64 => ?_)
    · have h := h.1 c64
      exact rtV C0 hw h dX2_renew_93
    · have h := h.2 c64
      refine lv_aload_n hx hb dX2_renew_67 rfl (lv_at hl 0 rfl) ?_
      refine gf_X2_handed C0 hw dX2_renew_68 ?_
      refine lv_iload hx hb dX2_renew_71 (lv_at hl 2 rfl) ?_
      refine lv_dup2_11 hx hb dX2_renew_73 rfl rfl ?_
      refine ld_C_handed C0 hw h.1 dX2_renew_74 ?_
      have h := h.2
      refine lv_aload_n hx hb dX2_renew_75 rfl (lv_at hl 0 rfl) ?_
      refine gf_X2_loansOf C0 hw dX2_renew_76 ?_
      refine lv_iload_n hx hb dX2_renew_79 rfl (lv_at hl 1 rfl) ?_
      refine ld_C_loansOf C0 hw h.1 dX2_renew_80 ?_
      have h := h.2
      refine lv_ldc2 (v := -1) hx hb C0.2.2.2.2.1 (C0.2.2.2.2.2.1 _ kw_179) dX2_renew_81 ?_
      refine lv_lxor hx hb dX2_renew_84 ?_
      refine lv_land hx hb dX2_renew_85 ?_
      refine st_C_handed C0 hw h.1 dX2_renew_86 (fun H locs hw => ?_)
      have h := h.2
      obtain ⟨S_1, eS_1⟩ : ∃ z, z = sC_handed S61 (vp_updL (gC_handed S61) (x4).toNatClampNeg ((gC_handed S61 (x4).toNatClampNeg) &&& ((gC_loansOf S61 (x2).toNatClampNeg) ^^^ (-1 : Int64)))) := ⟨_, rfl⟩
      rw [← eS_1] at hw
      have h := h S_1 eS_1
      obtain ⟨x4_2, ex4_2⟩ : ∃ y : Int32, y = x4 + (1 : Int32) := ⟨_, rfl⟩
      refine lv_iinc (v := x4_2) (lv' := [(4, .int x4_2), (0, .ref (ad 24)), (2, .int x2)]) hx hb dX2_renew_87 hl (k := 2) rfl (by rw [ex4_2]; rfl) (by decide) rfl (fun ls hl => ?_)
      have h := h x4_2 ex4_2
      refine lv_goto (tgt := 55) hx hb dX2_renew_90 (by decide) ?_
      replace hl := lv_sub hl [1, 2, 0] rfl
      exact ih x2 x4_2 S_1 _ _ _ h hw hl
set_option maxHeartbeats 4000000 in
set_option maxRecDepth 100000 in
theorem mb_X2_renew_50 {p : Program} {l : Launch} {e : Env} {s : State} {m : MethodId} {args : Array Value} {below : List Frame} {meth : Method} {c : Code} {D : va_G} {ad : Nat → Nat} {cI cJ cZ : ClassId} {A : Nat → Prop} {post : CS → Prop} (C0 : Cx p s m args meth c cX2_renew 5 RX2 none D cI cJ cZ A) :
 ∀ (x2 : Int32) (k0 : Int64) (k1 : Int64) (k2 : Int32) (S : CS) (H : Heap) (locs : List Loc) (ls : Array Slot), wp_X2_renew_50 post x2 k0 k1 k2 S → Wd (WC ad cI cJ cZ) D A s.heap H locs S → lv_has ls 5 [(0, .ref (ad 24)), (2, .int x2)] → W p l e rm_X2_renew s m args below meth c H locs 0 0 (QV (WC ad cI cJ cZ) D A s args below post) (F0 m 50 ls [.long k0, .long k1, .int k2, .ref (ad 29)]) := by
  have hx := C0.1
  have hb := C0.2.1
  intro x2 k0 k1 k2 S H locs ls h hw hl
  unfold wp_X2_renew_50 at h
  refine lv_lor hx hb dX2_renew_50 ?_
  refine st_C_handed C0 hw h.1 dX2_renew_51 (fun H locs hw => ?_)
  have h := h.2
  obtain ⟨S_1, eS_1⟩ : ∃ z, z = sC_handed S (vp_updL (gC_handed S) (k2).toNatClampNeg (k1 ||| k0)) := ⟨_, rfl⟩
  rw [← eS_1] at hw
  have h := h S_1 eS_1
  refine lv_iconst (v := 0) hx hb dX2_renew_52 (by decide) ?_
  refine lv_istore (lv' := [(4, .int (0 : Int32)), (0, .ref (ad 24)), (2, .int x2)]) hx hb dX2_renew_53 hl (by decide) rfl (fun ls hl => ?_)
  replace hl := lv_sub hl [1, 2, 0] rfl
  obtain ⟨n, h⟩ := h
  exact mb_X2_renew_55 C0 n x2 (0 : Int32) S_1 _ _ ls h hw hl
set_option maxHeartbeats 4000000 in
set_option maxRecDepth 100000 in
theorem m_X2_renew (l : Launch) (D : va_G) (ad : Nat → Nat) (cI cJ cZ : ClassId) (S : CS) (x1 : Int32) (post : CS → Prop) (h : wp_X2_renew S x1 post) : CV (WC ad cI cJ cZ) D cI cJ cZ l yX2_renew (.code yX2_renew cX2_renew 5 none :: gt) rm_X2_renew S [.ref (ad 24), .int x1] post := by
  refine enV (by decide) (Nat.le_of_ble_eq_true rfl) ?_
  intro p e s m below meth c A ls C0 hw hl
  have C0 : Cx p s m _ meth c cX2_renew 5 RX2 none D cI cJ cZ A := C0
  have hl : lv_has ls 5 [(0, .ref (ad 24)), (1, .int x1)] := hl
  have hx := C0.1
  have hb := C0.2.1
  unfold wp_X2_renew at h
  refine lv_aload_n hx hb dX2_renew_0 rfl (lv_at hl 0 rfl) ?_
  refine gf_X2_acts C0 hw dX2_renew_1 ?_
  refine lv_iload_n hx hb dX2_renew_4 rfl (lv_at hl 1 rfl) ?_
  refine clVI (As := [.int x1]) (rest := []) (ci := 0) (k := 4) C0 (m_X0_renewedAt l D ad cI cJ cZ S x1 _ h) cal_X0_renewedAt kw_189 kw_188 kw_187 rfl rfl rfl rfl hl.1 rfl (Nat.le_of_ble_eq_true rfl) ⟨Nat.le_of_ble_eq_true rfl, Nat.le_of_ble_eq_true rfl⟩ rfl rfl dX2_renew_5 hw (fun r5 S5 H locs h hw => ?_)
  replace h := h
  refine lv_istore_n (lv' := [(2, .int r5), (0, .ref (ad 24)), (1, .int x1)]) hx hb dX2_renew_8 rfl hl (by decide) rfl (fun ls hl => ?_)
  refine lv_iload_n hx hb dX2_renew_9 rfl (lv_at hl 0 rfl) ?_
  refine lv_iconst (v := -1) hx hb dX2_renew_10 (by decide) ?_
  refine lv_icmp_ne (tgt := 15) hx hb dX2_renew_11 (by decide) (fun c11 => ?_) (fun c11 => ?_)
  · have h := h.1 c11
    refine lv_aload_n hx hb dX2_renew_15 rfl (lv_at hl 1 rfl) ?_
    refine gf_X2_acts C0 hw dX2_renew_16 ?_
    refine lv_iload_n hx hb dX2_renew_19 rfl (lv_at hl 2 rfl) ?_
    refine clVI (As := [.int x1]) (rest := []) (ci := 0) (k := 4) C0 (m_X0_usedAt l D ad cI cJ cZ S5 x1 _ h) cal_X0_usedAt kw_192 kw_191 kw_190 rfl rfl rfl rfl hl.1 rfl (Nat.le_of_ble_eq_true rfl) ⟨Nat.le_of_ble_eq_true rfl, Nat.le_of_ble_eq_true rfl⟩ rfl rfl dX2_renew_20 hw (fun r20 S20 H locs h hw => ?_)
    replace h := h
    refine lv_istore_n (lv' := [(3, .int r20), (2, .int r5), (0, .ref (ad 24)), (1, .int x1)]) hx hb dX2_renew_23 rfl hl (by decide) rfl (fun ls hl => ?_)
    refine lv_aload_n hx hb dX2_renew_24 rfl (lv_at hl 2 rfl) ?_
    refine gf_X2_handed C0 hw dX2_renew_25 ?_
    refine lv_iload_n hx hb dX2_renew_28 rfl (lv_at hl 1 rfl) ?_
    refine lv_aload_n hx hb dX2_renew_29 rfl (lv_at hl 2 rfl) ?_
    refine gf_X2_bits C0 hw dX2_renew_30 ?_
    refine lv_iload_n hx hb dX2_renew_33 rfl (lv_at hl 3 rfl) ?_
    refine ld_C_bits C0 hw h.1 dX2_renew_34 ?_
    have h := h.2
    refine lv_iload_n hx hb dX2_renew_35 rfl (lv_at hl 0 rfl) ?_
    refine lv_iconst (v := -1) hx hb dX2_renew_36 (by decide) ?_
    refine lv_icmp_ne (tgt := 44) hx hb dX2_renew_37 (by decide) (fun c37 => ?_) (fun c37 => ?_)
    · have h := h.1 c37
      refine lv_aload_n hx hb dX2_renew_44 rfl (lv_at hl 2 rfl) ?_
      refine gf_X2_handed C0 hw dX2_renew_45 ?_
      refine lv_iload_n hx hb dX2_renew_48 rfl (lv_at hl 0 rfl) ?_
      refine ld_C_handed C0 hw h.1 dX2_renew_49 ?_
      have h := h.2
      replace hl := lv_sub hl [2, 1] rfl
      exact mb_X2_renew_50 C0 r5 (gC_handed S20 (r20).toNatClampNeg) (gC_bits S20 (x1).toNatClampNeg) r5 S20 _ _ ls h hw hl
    · have h := h.2 c37
      refine lv_lconst (v := 0) hx hb dX2_renew_40 (by decide) ?_
      refine lv_goto (tgt := 50) hx hb dX2_renew_41 (by decide) ?_
      replace hl := lv_sub hl [2, 1] rfl
      exact mb_X2_renew_50 C0 r5 (0 : Int64) (gC_bits S20 (x1).toNatClampNeg) r5 S20 _ _ ls h hw hl
  · have h := h.2 c11
    exact rtV C0 hw h dX2_renew_14
abbrev rm_X2_handOn : Room := { frames := 2, cells := 0, slots := 0, locals := 45 }
set_option maxHeartbeats 4000000 in
set_option maxRecDepth 100000 in
theorem mb_X2_handOn_57 {p : Program} {l : Launch} {e : Env} {s : State} {m : MethodId} {args : Array Value} {below : List Frame} {meth : Method} {c : Code} {D : va_G} {ad : Nat → Nat} {cI cJ cZ : ClassId} {A : Nat → Prop} {post : Int32 → CS → Prop} (C0 : Cx p s m args meth c cX2_handOn 4 RX2 (some .boolean) D cI cJ cZ A) (K27 : Int32 → Int32 → Int32 → CS → Prop) (hK27 : ∀ (x1 : Int32) (x2 : Int32) (x3 : Int32) (S : CS) (H : Heap) (locs : List Loc) (ls : Array Slot), K27 x1 x2 x3 S → Wd (WC ad cI cJ cZ) D A s.heap H locs S → lv_has ls 4 [(0, .ref (ad 24)), (1, .int x1), (2, .int x2), (3, .int x3)] → W p l e rm_X2_handOn s m args below meth c H locs 0 0 (QI (WC ad cI cJ cZ) D A s args below post) (F0 m 27 ls [])) :
 ∀ (x1 : Int32) (x2 : Int32) (x3 : Int32) (S : CS) (H : Heap) (locs : List Loc) (ls : Array Slot), wp_X2_handOn_57 K27 post x1 x2 x3 S → Wd (WC ad cI cJ cZ) D A s.heap H locs S → lv_has ls 4 [(0, .ref (ad 24)), (1, .int x1), (2, .int x2), (3, .int x3)] → W p l e rm_X2_handOn s m args below meth c H locs 0 0 (QI (WC ad cI cJ cZ) D A s args below post) (F0 m 57 ls []) := by
  have hx := C0.1
  have hb := C0.2.1
  intro x1 x2 x3 S H locs ls h hw hl
  unfold wp_X2_handOn_57 at h
  obtain ⟨x3_1, ex3_1⟩ : ∃ y : Int32, y = x3 + (1 : Int32) := ⟨_, rfl⟩
  refine lv_iinc (v := x3_1) (lv' := [(3, .int x3_1), (0, .ref (ad 24)), (1, .int x1), (2, .int x2)]) hx hb dX2_handOn_57 hl (k := 3) rfl (by rw [ex3_1]; rfl) (by decide) rfl (fun ls hl => ?_)
  have h := h x3_1 ex3_1
  refine lv_goto (tgt := 27) hx hb dX2_handOn_60 (by decide) ?_
  replace hl := lv_sub hl [1, 2, 3, 0] rfl
  exact hK27 x1 x2 x3_1 S _ _ _ h hw hl
set_option maxHeartbeats 4000000 in
set_option maxRecDepth 100000 in
theorem mb_X2_handOn_27 {p : Program} {l : Launch} {e : Env} {s : State} {m : MethodId} {args : Array Value} {below : List Frame} {meth : Method} {c : Code} {D : va_G} {ad : Nat → Nat} {cI cJ cZ : ClassId} {A : Nat → Prop} {post : Int32 → CS → Prop} (C0 : Cx p s m args meth c cX2_handOn 4 RX2 (some .boolean) D cI cJ cZ A) :
 ∀ (n : Nat) (x1 : Int32) (x2 : Int32) (x3 : Int32) (S : CS) (H : Heap) (locs : List Loc) (ls : Array Slot), wp_X2_handOn_27 post n x1 x2 x3 S → Wd (WC ad cI cJ cZ) D A s.heap H locs S → lv_has ls 4 [(0, .ref (ad 24)), (1, .int x1), (2, .int x2), (3, .int x3)] → W p l e rm_X2_handOn s m args below meth c H locs 0 0 (QI (WC ad cI cJ cZ) D A s args below post) (F0 m 27 ls []) := by
  have hx := C0.1
  have hb := C0.2.1
  intro n
  induction n with
  | zero => intro x1 x2 x3 S H locs ls h; exact h.elim
  | succ n ih =>
    intro x1 x2 x3 S H locs ls h hw hl
    replace h : ws_X2_handOn_27 (wp_X2_handOn_27  post n)  post x1 x2 x3 S := h
    unfold ws_X2_handOn_27 at h
    refine lv_iload_n hx hb dX2_handOn_27 rfl (lv_at hl 3 rfl) ?_
    refine lv_aload_n hx hb dX2_handOn_28 rfl (lv_at hl 0 rfl) ?_
    refine gf_X2_ways C0 hw dX2_handOn_29 ?_
    refine lv_iload_n hx hb dX2_handOn_32 rfl (lv_at hl 1 rfl) ?_
    refine clVI (As := [.int x1]) (rest := [.int x3]) (ci := 4) (k := 14) C0 (m_X5_nextCount l D ad cI cJ cZ S x1 _ h) cal_X5_nextCount kw_125 kw_124 kw_174 rfl rfl rfl rfl hl.1 rfl (Nat.le_of_ble_eq_true rfl) ⟨Nat.le_of_ble_eq_true rfl, Nat.le_of_ble_eq_true rfl⟩ rfl rfl dX2_handOn_33 hw (fun r33 S33 H locs h hw => ?_)
    replace h := h
    refine lv_icmp_ge (tgt := 63) hx hb dX2_handOn_36 (by decide) (fun c36 => ?_) (fun c36 => ?_)
    · have h := h.1 c36
      refine lv_iload_n hx hb dX2_handOn_63 rfl (lv_at hl 2 rfl) ?_
      exact rtZ C0 hw (isb_n h.1) h.2 dX2_handOn_64
    · have h := h.2 c36
      refine lv_aload_n hx hb dX2_handOn_39 rfl (lv_at hl 0 rfl) ?_
      refine lv_aload_n hx hb dX2_handOn_40 rfl (lv_at hl 0 rfl) ?_
      refine gf_X2_ways C0 hw dX2_handOn_41 ?_
      refine lv_iload_n hx hb dX2_handOn_44 rfl (lv_at hl 1 rfl) ?_
      refine lv_iload_n hx hb dX2_handOn_45 rfl (lv_at hl 3 rfl) ?_
      refine clVI (As := [.int x1, .int x3]) (rest := [.ref (ad 24)]) (ci := 4) (k := 14) C0 (m_X5_nextOf l D ad cI cJ cZ S33 x1 x3 _ h) cal_X5_nextOf kw_97 kw_96 kw_175 rfl rfl rfl rfl hl.1 rfl (Nat.le_of_ble_eq_true rfl) ⟨Nat.le_of_ble_eq_true rfl, Nat.le_of_ble_eq_true rfl⟩ rfl rfl dX2_handOn_46 hw (fun r46 S46 H locs h hw => ?_)
      replace h := h
      refine clVI (As := [.int r46]) (rest := []) (ci := 2) (k := 24) C0 (m_X2_takeOver l D ad cI cJ cZ S46 r46 _ h) cal_X2_takeOver kw_182 kw_181 kw_180 rfl rfl rfl rfl hl.1 rfl (Nat.le_of_ble_eq_true rfl) ⟨Nat.le_of_ble_eq_true rfl, Nat.le_of_ble_eq_true rfl⟩ rfl rfl dX2_handOn_49 hw (fun r49 S49 H locs h hw => ?_)
      replace h := h
      refine lv_if_eq (tgt := 57) hx hb dX2_handOn_52 (by decide) (fun c52 => ?_) (fun c52 => ?_)
      · have h := h.1 c52
        replace hl := lv_sub hl [0, 1, 2, 3] rfl
        exact mb_X2_handOn_57 C0 _ ih x1 x2 x3 S49 _ _ ls h hw hl
      · have h := h.2 c52
        refine lv_iconst (v := 1) hx hb dX2_handOn_55 (by decide) ?_
        refine lv_istore_n (lv' := [(2, .int (1 : Int32)), (0, .ref (ad 24)), (1, .int x1), (3, .int x3)]) hx hb dX2_handOn_56 rfl hl (by decide) rfl (fun ls hl => ?_)
        replace hl := lv_sub hl [1, 2, 0, 3] rfl
        exact mb_X2_handOn_57 C0 _ ih x1 (1 : Int32) x3 S49 _ _ ls h hw hl
set_option maxHeartbeats 4000000 in
set_option maxRecDepth 100000 in
theorem m_X2_handOn (l : Launch) (D : va_G) (ad : Nat → Nat) (cI cJ cZ : ClassId) (S : CS) (x1 : Int32) (post : Int32 → CS → Prop) (h : wp_X2_handOn S x1 post) : CI (WC ad cI cJ cZ) D cI cJ cZ l yX2_handOn (.code yX2_handOn cX2_handOn 4 (some .boolean) :: gt) rm_X2_handOn S [.ref (ad 24), .int x1] post := by
  refine enI (by decide) (Nat.le_of_ble_eq_true rfl) ?_
  intro p e s m below meth c A ls C0 hw hl
  have C0 : Cx p s m _ meth c cX2_handOn 4 RX2 (some .boolean) D cI cJ cZ A := C0
  have hl : lv_has ls 4 [(0, .ref (ad 24)), (1, .int x1)] := hl
  have hx := C0.1
  have hb := C0.2.1
  unfold wp_X2_handOn at h
  refine lv_aload_n hx hb dX2_handOn_0 rfl (lv_at hl 0 rfl) ?_
  refine gf_X2_holdings C0 hw dX2_handOn_1 ?_
  refine lv_iload_n hx hb dX2_handOn_4 rfl (lv_at hl 1 rfl) ?_
  refine lv_bipush (v := 16) hx hb dX2_handOn_5 (by decide) ?_
  refine lv_imul hx hb dX2_handOn_7 ?_
  refine lv_aload_n hx hb dX2_handOn_8 rfl (lv_at hl 0 rfl) ?_
  refine gf_X2_handed C0 hw dX2_handOn_9 ?_
  refine lv_iconst (v := 0) hx hb dX2_handOn_12 (by decide) ?_
  refine lv_bipush (v := 16) hx hb dX2_handOn_13 (by decide) ?_
  refine va_copyl hx hb (C0.2.2.2.1.trans hl.1.symm) C0.2.2.2.2.1 (C0.2.2.2.2.2.1 _ kw_183) (C0.2.2.2.2.2.1 _ kw_184) (C0.2.2.2.2.2.1 _ kw_185) (C0.2.2.2.2.2.1 _ kw_186) C0.2.2.2.2.2.2.2.1.1 hw.1 hw.2.1 hw.2.2 28 29 1 1 rfl rfl rfl rfl rfl h.1.1 (by decide) (by decide) h.1.2 (by decide) (fun _ _ => rfl) (Nat.le_of_ble_eq_true rfl) (by decide) dX2_handOn_15 (fun H locs hP hD hS => ?_)
  have h := h.2
  have hw : Wd (WC ad cI cJ cZ) D A s.heap H locs (sC_handed S (va_cpy (gC_holdings S) (gC_handed S) (x1 * (16 : Int32)).toNatClampNeg 0 16)) := ⟨hP, hD, hS⟩
  obtain ⟨S_1, eS_1⟩ : ∃ z, z = sC_handed S (va_cpy (gC_holdings S) (gC_handed S) (x1 * (16 : Int32)).toNatClampNeg 0 16) := ⟨_, rfl⟩
  rw [← eS_1] at hw
  have h := h S_1 eS_1
  refine lv_aload_n hx hb dX2_handOn_18 rfl (lv_at hl 0 rfl) ?_
  refine lv_iload_n hx hb dX2_handOn_19 rfl (lv_at hl 1 rfl) ?_
  refine clVV (As := [.int x1]) (rest := []) (ci := 2) (k := 24) C0 (m_X2_renew l D ad cI cJ cZ S_1 x1 _ h) cal_X2_renew kw_195 kw_194 kw_193 rfl rfl rfl rfl hl.1 rfl (Nat.le_of_ble_eq_true rfl) ⟨Nat.le_of_ble_eq_true rfl, Nat.le_of_ble_eq_true rfl⟩ rfl rfl dX2_handOn_20 hw (fun S20 H locs h hw => ?_)
  replace h := h
  refine lv_iconst (v := 0) hx hb dX2_handOn_23 (by decide) ?_
  refine lv_istore_n (lv' := [(2, .int (0 : Int32)), (0, .ref (ad 24)), (1, .int x1)]) hx hb dX2_handOn_24 rfl hl (by decide) rfl (fun ls hl => ?_)
  refine lv_iconst (v := 0) hx hb dX2_handOn_25 (by decide) ?_
  refine lv_istore_n (lv' := [(3, .int (0 : Int32)), (2, .int (0 : Int32)), (0, .ref (ad 24)), (1, .int x1)]) hx hb dX2_handOn_26 rfl hl (by decide) rfl (fun ls hl => ?_)
  replace hl := lv_sub hl [2, 3, 1, 0] rfl
  obtain ⟨n, h⟩ := h
  exact mb_X2_handOn_27 C0 n x1 (0 : Int32) (0 : Int32) S20 _ _ ls h hw hl
abbrev rm_X2_flowHoldings : Room := { frames := 3, cells := 0, slots := 0, locals := 68 }
set_option maxHeartbeats 4000000 in
set_option maxRecDepth 100000 in
theorem mb_X2_flowHoldings_65 {p : Program} {l : Launch} {e : Env} {s : State} {m : MethodId} {args : Array Value} {below : List Frame} {meth : Method} {c : Code} {D : va_G} {ad : Nat → Nat} {cI cJ cZ : ClassId} {A : Nat → Prop} {post : CS → Prop} (C0 : Cx p s m args meth c cX2_flowHoldings 4 RX2 none D cI cJ cZ A) (K37 : Int32 → Int32 → Int32 → CS → Prop) (hK37 : ∀ (x1 : Int32) (x2 : Int32) (x3 : Int32) (S : CS) (H : Heap) (locs : List Loc) (ls : Array Slot), K37 x1 x2 x3 S → Wd (WC ad cI cJ cZ) D A s.heap H locs S → lv_has ls 4 [(0, .ref (ad 24)), (1, .int x1), (2, .int x2), (3, .int x3)] → W p l e rm_X2_flowHoldings s m args below meth c H locs 0 0 (QV (WC ad cI cJ cZ) D A s args below post) (F0 m 37 ls [])) :
 ∀ (x1 : Int32) (x2 : Int32) (x3 : Int32) (S : CS) (H : Heap) (locs : List Loc) (ls : Array Slot), wp_X2_flowHoldings_65 K37 post x1 x2 x3 S → Wd (WC ad cI cJ cZ) D A s.heap H locs S → lv_has ls 4 [(0, .ref (ad 24)), (1, .int x1), (2, .int x2), (3, .int x3)] → W p l e rm_X2_flowHoldings s m args below meth c H locs 0 0 (QV (WC ad cI cJ cZ) D A s args below post) (F0 m 65 ls []) := by
  have hx := C0.1
  have hb := C0.2.1
  intro x1 x2 x3 S H locs ls h hw hl
  unfold wp_X2_flowHoldings_65 at h
  obtain ⟨x3_1, ex3_1⟩ : ∃ y : Int32, y = x3 + (1 : Int32) := ⟨_, rfl⟩
  refine lv_iinc (v := x3_1) (lv' := [(3, .int x3_1), (0, .ref (ad 24)), (1, .int x1), (2, .int x2)]) hx hb dX2_flowHoldings_65 hl (k := 3) rfl (by rw [ex3_1]; rfl) (by decide) rfl (fun ls hl => ?_)
  have h := h x3_1 ex3_1
  refine lv_goto (tgt := 37) hx hb dX2_flowHoldings_68 (by decide) ?_
  replace hl := lv_sub hl [1, 2, 3, 0] rfl
  exact hK37 x1 x2 x3_1 S _ _ _ h hw hl
set_option maxHeartbeats 4000000 in
set_option maxRecDepth 100000 in
theorem mb_X2_flowHoldings_37 {p : Program} {l : Launch} {e : Env} {s : State} {m : MethodId} {args : Array Value} {below : List Frame} {meth : Method} {c : Code} {D : va_G} {ad : Nat → Nat} {cI cJ cZ : ClassId} {A : Nat → Prop} {post : CS → Prop} (C0 : Cx p s m args meth c cX2_flowHoldings 4 RX2 none D cI cJ cZ A) (K23 : Int32 → Int32 → CS → Prop) (hK23 : ∀ (x1 : Int32) (x2 : Int32) (S : CS) (H : Heap) (locs : List Loc) (ls : Array Slot), K23 x1 x2 S → Wd (WC ad cI cJ cZ) D A s.heap H locs S → lv_has ls 4 [(0, .ref (ad 24)), (1, .int x1), (2, .int x2)] → W p l e rm_X2_flowHoldings s m args below meth c H locs 0 0 (QV (WC ad cI cJ cZ) D A s args below post) (F0 m 23 ls [])) :
 ∀ (n : Nat) (x1 : Int32) (x2 : Int32) (x3 : Int32) (S : CS) (H : Heap) (locs : List Loc) (ls : Array Slot), wp_X2_flowHoldings_37 K23 post n x1 x2 x3 S → Wd (WC ad cI cJ cZ) D A s.heap H locs S → lv_has ls 4 [(0, .ref (ad 24)), (1, .int x1), (2, .int x2), (3, .int x3)] → W p l e rm_X2_flowHoldings s m args below meth c H locs 0 0 (QV (WC ad cI cJ cZ) D A s args below post) (F0 m 37 ls []) := by
  have hx := C0.1
  have hb := C0.2.1
  intro n
  induction n with
  | zero => intro x1 x2 x3 S H locs ls h; exact h.elim
  | succ n ih =>
    intro x1 x2 x3 S H locs ls h hw hl
    replace h : ws_X2_flowHoldings_37 (wp_X2_flowHoldings_37 K23 post n) K23 post x1 x2 x3 S := h
    unfold ws_X2_flowHoldings_37 at h
    refine lv_iload_n hx hb dX2_flowHoldings_37 rfl (lv_at hl 3 rfl) ?_
    refine lv_aload_n hx hb dX2_flowHoldings_38 rfl (lv_at hl 0 rfl) ?_
    refine gf_X2_ways C0 hw dX2_flowHoldings_39 ?_
    refine clVI (As := []) (rest := [.int x3]) (ci := 4) (k := 14) C0 (m_X5_size l D ad cI cJ cZ S _ h) cal_X5_size kw_119 kw_118 kw_172 rfl rfl rfl rfl hl.1 rfl (Nat.le_of_ble_eq_true rfl) ⟨Nat.le_of_ble_eq_true rfl, Nat.le_of_ble_eq_true rfl⟩ rfl rfl dX2_flowHoldings_42 hw (fun r42 S42 H locs h hw => ?_)
    replace h := h
    refine lv_icmp_ge (tgt := 71) hx hb dX2_flowHoldings_45 (by decide) (fun c45 => ?_) (fun c45 => ?_)
    · have h := h.1 c45
      obtain ⟨x2_1, ex2_1⟩ : ∃ y : Int32, y = x2 + (1 : Int32) := ⟨_, rfl⟩
      refine lv_iinc (v := x2_1) (lv' := [(2, .int x2_1), (0, .ref (ad 24)), (1, .int x1), (3, .int x3)]) hx hb dX2_flowHoldings_71 hl (k := 2) rfl (by rw [ex2_1]; rfl) (by decide) rfl (fun ls hl => ?_)
      have h := h x2_1 ex2_1
      refine lv_goto (tgt := 23) hx hb dX2_flowHoldings_74 (by decide) ?_
      replace hl := lv_sub hl [1, 2, 0] rfl
      exact hK23 x1 x2_1 S42 _ _ _ h hw hl
    · have h := h.2 c45
      refine lv_aload_n hx hb dX2_flowHoldings_48 rfl (lv_at hl 0 rfl) ?_
      refine lv_aload_n hx hb dX2_flowHoldings_49 rfl (lv_at hl 0 rfl) ?_
      refine gf_X2_ways C0 hw dX2_flowHoldings_50 ?_
      refine lv_iload_n hx hb dX2_flowHoldings_53 rfl (lv_at hl 3 rfl) ?_
      refine clVI (As := [.int x3]) (rest := [.ref (ad 24)]) (ci := 4) (k := 14) C0 (m_X5_fromTheBeginning l D ad cI cJ cZ S42 x3 _ h) cal_X5_fromTheBeginning kw_122 kw_121 kw_173 rfl rfl rfl rfl hl.1 rfl (Nat.le_of_ble_eq_true rfl) ⟨Nat.le_of_ble_eq_true rfl, Nat.le_of_ble_eq_true rfl⟩ rfl rfl dX2_flowHoldings_54 hw (fun r54 S54 H locs h hw => ?_)
      replace h := h
      refine clVI (As := [.int r54]) (rest := []) (ci := 2) (k := 24) C0 (m_X2_handOn l D ad cI cJ cZ S54 r54 _ h) cal_X2_handOn kw_198 kw_197 kw_196 rfl rfl rfl rfl hl.1 rfl (Nat.le_of_ble_eq_true rfl) ⟨Nat.le_of_ble_eq_true rfl, Nat.le_of_ble_eq_true rfl⟩ rfl rfl dX2_flowHoldings_57 hw (fun r57 S57 H locs h hw => ?_)
      replace h := h
      refine lv_if_eq (tgt := 65) hx hb dX2_flowHoldings_60 (by decide) (fun c60 => ?_) (fun c60 => ?_)
      · have h := h.1 c60
        replace hl := lv_sub hl [0, 1, 2, 3] rfl
        exact mb_X2_flowHoldings_65 C0 _ ih x1 x2 x3 S57 _ _ ls h hw hl
      · have h := h.2 c60
        refine lv_iconst (v := 1) hx hb dX2_flowHoldings_63 (by decide) ?_
        refine lv_istore_n (lv' := [(1, .int (1 : Int32)), (0, .ref (ad 24)), (2, .int x2), (3, .int x3)]) hx hb dX2_flowHoldings_64 rfl hl (by decide) rfl (fun ls hl => ?_)
        replace hl := lv_sub hl [1, 0, 2, 3] rfl
        exact mb_X2_flowHoldings_65 C0 _ ih (1 : Int32) x2 x3 S57 _ _ ls h hw hl
set_option maxHeartbeats 4000000 in
set_option maxRecDepth 100000 in
theorem mb_X2_flowHoldings_23 {p : Program} {l : Launch} {e : Env} {s : State} {m : MethodId} {args : Array Value} {below : List Frame} {meth : Method} {c : Code} {D : va_G} {ad : Nat → Nat} {cI cJ cZ : ClassId} {A : Nat → Prop} {post : CS → Prop} (C0 : Cx p s m args meth c cX2_flowHoldings 4 RX2 none D cI cJ cZ A) :
 ∀ (n : Nat) (x1 : Int32) (x2 : Int32) (S : CS) (H : Heap) (locs : List Loc) (ls : Array Slot), wp_X2_flowHoldings_23 post n x1 x2 S → Wd (WC ad cI cJ cZ) D A s.heap H locs S → lv_has ls 4 [(0, .ref (ad 24)), (1, .int x1), (2, .int x2)] → W p l e rm_X2_flowHoldings s m args below meth c H locs 0 0 (QV (WC ad cI cJ cZ) D A s args below post) (F0 m 23 ls []) := by
  have hx := C0.1
  have hb := C0.2.1
  intro n
  induction n with
  | zero => intro x1 x2 S H locs ls h; exact h.elim
  | succ n ih =>
    intro x1 x2 S H locs ls h hw hl
    replace h : ws_X2_flowHoldings_23 (wp_X2_flowHoldings_23  post n)  post x1 x2 S := h
    unfold ws_X2_flowHoldings_23 at h
    refine lv_iload_n hx hb dX2_flowHoldings_23 rfl (lv_at hl 2 rfl) ?_
    refine lv_ldc (v := 144001) hx hb C0.2.2.2.2.1 (C0.2.2.2.2.2.1 _ kw_199) dX2_flowHoldings_24 ?_
    refine lv_icmp_ge (tgt := 77) hx hb dX2_flowHoldings_26 (by decide) (fun c26 => ?_) (fun c26 => ?_)
    · have h := h.1 c26
      exact rtV C0 hw h dX2_flowHoldings_77
    · have h := h.2 c26
      refine lv_iload_n hx hb dX2_flowHoldings_29 rfl (lv_at hl 1 rfl) ?_
      refine lv_if_eq (tgt := 77) hx hb dX2_flowHoldings_30 (by decide) (fun c30 => ?_) (fun c30 => ?_)
      · have h := h.1 c30
        exact rtV C0 hw h dX2_flowHoldings_77
      · have h := h.2 c30
        refine lv_iconst (v := 0) hx hb dX2_flowHoldings_33 (by decide) ?_
        refine lv_istore_n (lv' := [(1, .int (0 : Int32)), (0, .ref (ad 24)), (2, .int x2)]) hx hb dX2_flowHoldings_34 rfl hl (by decide) rfl (fun ls hl => ?_)
        refine lv_iconst (v := 0) hx hb dX2_flowHoldings_35 (by decide) ?_
        refine lv_istore_n (lv' := [(3, .int (0 : Int32)), (1, .int (0 : Int32)), (0, .ref (ad 24)), (2, .int x2)]) hx hb dX2_flowHoldings_36 rfl hl (by decide) rfl (fun ls hl => ?_)
        replace hl := lv_sub hl [2, 1, 3, 0] rfl
        obtain ⟨n, h⟩ := h
        exact mb_X2_flowHoldings_37 C0 _ ih n (0 : Int32) x2 (0 : Int32) S _ _ ls h hw hl
set_option maxHeartbeats 4000000 in
set_option maxRecDepth 100000 in
theorem mb_X2_flowHoldings_20 {p : Program} {l : Launch} {e : Env} {s : State} {m : MethodId} {args : Array Value} {below : List Frame} {meth : Method} {c : Code} {D : va_G} {ad : Nat → Nat} {cI cJ cZ : ClassId} {A : Nat → Prop} {post : CS → Prop} (C0 : Cx p s m args meth c cX2_flowHoldings 4 RX2 none D cI cJ cZ A) :
 ∀ (k0 : Int32) (S : CS) (H : Heap) (locs : List Loc) (ls : Array Slot), wp_X2_flowHoldings_20 post k0 S → Wd (WC ad cI cJ cZ) D A s.heap H locs S → lv_has ls 4 [(0, .ref (ad 24))] → W p l e rm_X2_flowHoldings s m args below meth c H locs 0 0 (QV (WC ad cI cJ cZ) D A s args below post) (F0 m 20 ls [.int k0]) := by
  have hx := C0.1
  have hb := C0.2.1
  intro k0 S H locs ls h hw hl
  unfold wp_X2_flowHoldings_20 at h
  refine lv_istore_n (lv' := [(1, .int k0), (0, .ref (ad 24))]) hx hb dX2_flowHoldings_20 rfl hl (by decide) rfl (fun ls hl => ?_)
  refine lv_iconst (v := 0) hx hb dX2_flowHoldings_21 (by decide) ?_
  refine lv_istore_n (lv' := [(2, .int (0 : Int32)), (1, .int k0), (0, .ref (ad 24))]) hx hb dX2_flowHoldings_22 rfl hl (by decide) rfl (fun ls hl => ?_)
  replace hl := lv_sub hl [2, 1, 0] rfl
  obtain ⟨n, h⟩ := h
  exact mb_X2_flowHoldings_23 C0 n k0 (0 : Int32) S _ _ ls h hw hl
set_option maxHeartbeats 4000000 in
set_option maxRecDepth 100000 in
theorem m_X2_flowHoldings (l : Launch) (D : va_G) (ad : Nat → Nat) (cI cJ cZ : ClassId) (S : CS)  (post : CS → Prop) (h : wp_X2_flowHoldings S  post) : CV (WC ad cI cJ cZ) D cI cJ cZ l yX2_flowHoldings (.code yX2_flowHoldings cX2_flowHoldings 4 none :: gt) rm_X2_flowHoldings S [.ref (ad 24)] post := by
  refine enV (by decide) (Nat.le_of_ble_eq_true rfl) ?_
  intro p e s m below meth c A ls C0 hw hl
  have C0 : Cx p s m _ meth c cX2_flowHoldings 4 RX2 none D cI cJ cZ A := C0
  have hl : lv_has ls 4 [(0, .ref (ad 24))] := hl
  have hx := C0.1
  have hb := C0.2.1
  unfold wp_X2_flowHoldings at h
  refine lv_aload_n hx hb dX2_flowHoldings_0 rfl (lv_at hl 0 rfl) ?_
  refine gf_X2_holdings C0 hw dX2_flowHoldings_1 ?_
  refine lv_lconst (v := 0) hx hb dX2_flowHoldings_4 (by decide) ?_
  refine fl_C_holdings (index := 43) C0 kw_168 hl.1 rfl (Nat.le_of_ble_eq_true rfl) ⟨Nat.le_of_ble_eq_true rfl, Nat.le_of_ble_eq_true rfl⟩ dX2_flowHoldings_5 hw (fun H locs hw => ?_)
  obtain ⟨S_1, eS_1⟩ : ∃ z, z = sC_holdings S (fl_J 2400 (0 : Int64) (gC_holdings S)) := ⟨_, rfl⟩
  rw [← eS_1] at hw
  have h := h S_1 eS_1
  refine lv_aload_n hx hb dX2_flowHoldings_8 rfl (lv_at hl 0 rfl) ?_
  refine gf_X2_made C0 hw dX2_flowHoldings_9 ?_
  refine lv_if_le (tgt := 19) hx hb dX2_flowHoldings_12 (by decide) (fun c12 => ?_) (fun c12 => ?_)
  · have h := h.1 c12
    refine lv_iconst (v := 0) hx hb dX2_flowHoldings_19 (by decide) ?_
    replace hl := lv_sub hl [0] rfl
    exact mb_X2_flowHoldings_20 C0 (0 : Int32) S_1 _ _ ls h hw hl
  · have h := h.2 c12
    refine lv_iconst (v := 1) hx hb dX2_flowHoldings_15 (by decide) ?_
    refine lv_goto (tgt := 20) hx hb dX2_flowHoldings_16 (by decide) ?_
    replace hl := lv_sub hl [0] rfl
    exact mb_X2_flowHoldings_20 C0 (1 : Int32) S_1 _ _ ls h hw hl
abbrev rm_X2_variableBit : Room := { frames := 0, cells := 0, slots := 0, locals := 0 }
set_option maxHeartbeats 4000000 in
set_option maxRecDepth 100000 in
theorem m_X2_variableBit (l : Launch) (D : va_G) (ad : Nat → Nat) (cI cJ cZ : ClassId) (S : CS) (x0 : Int32) (post : Int32 → CS → Prop) (h : wp_X2_variableBit S x0 post) : CI (WC ad cI cJ cZ) D cI cJ cZ l yX2_variableBit (.code yX2_variableBit cX2_variableBit 1 (some .int) :: gt) rm_X2_variableBit S [.int x0] post := by
  refine enI (by decide) (Nat.le_of_ble_eq_true rfl) ?_
  intro p e s m below meth c A ls C0 hw hl
  have C0 : Cx p s m _ meth c cX2_variableBit 1 RX2 (some .int) D cI cJ cZ A := C0
  have hl : lv_has ls 1 [(0, .int x0)] := hl
  have hx := C0.1
  have hb := C0.2.1
  unfold wp_X2_variableBit at h
  refine lv_iload_n hx hb dX2_variableBit_0 rfl (lv_at hl 0 rfl) ?_
  refine lv_iconst (v := -1) hx hb dX2_variableBit_1 (by decide) ?_
  refine lv_icmp_ne (tgt := 9) hx hb dX2_variableBit_2 (by decide) (fun c2 => ?_) (fun c2 => ?_)
  · have h := h.1 c2
    refine lv_iconst (v := 1) hx hb dX2_variableBit_9 (by decide) ?_
    refine lv_iload_n hx hb dX2_variableBit_10 rfl (lv_at hl 0 rfl) ?_
    refine lv_ishl hx hb dX2_variableBit_11 ?_
    exact rtI C0 hw h dX2_variableBit_12
  · have h := h.2 c2
    refine lv_iconst (v := 0) hx hb dX2_variableBit_5 (by decide) ?_
    refine lv_goto (tgt := 12) hx hb dX2_variableBit_6 (by decide) ?_
    exact rtI C0 hw h dX2_variableBit_12
abbrev rm_X2_usesBehind : Room := { frames := 1, cells := 0, slots := 0, locals := 22 }
set_option maxHeartbeats 4000000 in
set_option maxRecDepth 100000 in
theorem mb_X2_usesBehind_4 {p : Program} {l : Launch} {e : Env} {s : State} {m : MethodId} {args : Array Value} {below : List Frame} {meth : Method} {c : Code} {D : va_G} {ad : Nat → Nat} {cI cJ cZ : ClassId} {A : Nat → Prop} {post : Int32 → CS → Prop} (C0 : Cx p s m args meth c cX2_usesBehind 5 RX2 (some .int) D cI cJ cZ A) :
 ∀ (n : Nat) (x1 : Int32) (x2 : Int32) (x3 : Int32) (S : CS) (H : Heap) (locs : List Loc) (ls : Array Slot), wp_X2_usesBehind_4 post n x1 x2 x3 S → Wd (WC ad cI cJ cZ) D A s.heap H locs S → lv_has ls 5 [(0, .ref (ad 24)), (1, .int x1), (2, .int x2), (3, .int x3)] → W p l e rm_X2_usesBehind s m args below meth c H locs 0 0 (QI (WC ad cI cJ cZ) D A s args below post) (F0 m 4 ls []) := by
  have hx := C0.1
  have hb := C0.2.1
  intro n
  induction n with
  | zero => intro x1 x2 x3 S H locs ls h; exact h.elim
  | succ n ih =>
    intro x1 x2 x3 S H locs ls h hw hl
    replace h : ws_X2_usesBehind_4 (wp_X2_usesBehind_4  post n)  post x1 x2 x3 S := h
    unfold ws_X2_usesBehind_4 at h
    refine lv_iload_n hx hb dX2_usesBehind_4 rfl (lv_at hl 3 rfl) ?_
    refine lv_aload_n hx hb dX2_usesBehind_5 rfl (lv_at hl 0 rfl) ?_
    refine gf_X2_ways C0 hw dX2_usesBehind_6 ?_
    refine lv_iload_n hx hb dX2_usesBehind_9 rfl (lv_at hl 1 rfl) ?_
    refine clVI (As := [.int x1]) (rest := [.int x3]) (ci := 4) (k := 14) C0 (m_X5_nextCount l D ad cI cJ cZ S x1 _ h) cal_X5_nextCount kw_125 kw_124 kw_174 rfl rfl rfl rfl hl.1 rfl (Nat.le_of_ble_eq_true rfl) ⟨Nat.le_of_ble_eq_true rfl, Nat.le_of_ble_eq_true rfl⟩ rfl rfl dX2_usesBehind_10 hw (fun r10 S10 H locs h hw => ?_)
    replace h := h
    refine lv_icmp_ge (tgt := 71) hx hb dX2_usesBehind_13 (by decide) (fun c13 => ?_) (fun c13 => ?_)
    · have h := h.1 c13
      refine lv_iload_n hx hb dX2_usesBehind_71 rfl (lv_at hl 2 rfl) ?_
      exact rtI C0 hw h dX2_usesBehind_72
    · have h := h.2 c13
      refine lv_aload_n hx hb dX2_usesBehind_16 rfl (lv_at hl 0 rfl) ?_
      refine gf_X2_ways C0 hw dX2_usesBehind_17 ?_
      refine lv_iload_n hx hb dX2_usesBehind_20 rfl (lv_at hl 1 rfl) ?_
      refine lv_iload_n hx hb dX2_usesBehind_21 rfl (lv_at hl 3 rfl) ?_
      refine clVI (As := [.int x1, .int x3]) (rest := []) (ci := 4) (k := 14) C0 (m_X5_nextOf l D ad cI cJ cZ S10 x1 x3 _ h) cal_X5_nextOf kw_97 kw_96 kw_175 rfl rfl rfl rfl hl.1 rfl (Nat.le_of_ble_eq_true rfl) ⟨Nat.le_of_ble_eq_true rfl, Nat.le_of_ble_eq_true rfl⟩ rfl rfl dX2_usesBehind_22 hw (fun r22 S22 H locs h hw => ?_)
      replace h := h
      refine lv_istore (lv' := [(4, .int r22), (0, .ref (ad 24)), (1, .int x1), (2, .int x2), (3, .int x3)]) hx hb dX2_usesBehind_25 hl (by decide) rfl (fun ls hl => ?_)
      refine lv_iload_n hx hb dX2_usesBehind_27 rfl (lv_at hl 3 rfl) ?_
      refine lv_aload_n hx hb dX2_usesBehind_28 rfl (lv_at hl 1 rfl) ?_
      refine gf_X2_usedLater C0 hw dX2_usesBehind_29 ?_
      refine lv_iload hx hb dX2_usesBehind_32 (lv_at hl 0 rfl) ?_
      refine ld_C_usedL C0 hw h.1 dX2_usesBehind_34 ?_
      have h := h.2
      refine lv_aload_n hx hb dX2_usesBehind_35 rfl (lv_at hl 1 rfl) ?_
      refine gf_X2_acts C0 hw dX2_usesBehind_36 ?_
      refine lv_iload hx hb dX2_usesBehind_39 (lv_at hl 0 rfl) ?_
      refine clVI (As := [.int r22]) (rest := [.int (gC_usedL S22 (r22).toNatClampNeg), .int x2]) (ci := 0) (k := 4) C0 (m_X0_renewedAt l D ad cI cJ cZ S22 r22 _ h) cal_X0_renewedAt kw_189 kw_188 kw_187 rfl rfl rfl rfl hl.1 rfl (Nat.le_of_ble_eq_true rfl) ⟨Nat.le_of_ble_eq_true rfl, Nat.le_of_ble_eq_true rfl⟩ rfl rfl dX2_usesBehind_41 hw (fun r41 S41 H locs h hw => ?_)
      replace h := h
      refine clSI (As := [.int r41]) (rest := [.int (gC_usedL S22 (r22).toNatClampNeg), .int x2]) C0 (m_X2_variableBit l D ad cI cJ cZ S41 r41 _ h) cal_X2_variableBit kw_207 kw_206 rfl hl.1 rfl (Nat.le_of_ble_eq_true rfl) ⟨Nat.le_of_ble_eq_true rfl, Nat.le_of_ble_eq_true rfl⟩ rfl rfl dX2_usesBehind_44 hw (fun r44 S44 H locs h hw => ?_)
      replace h := h
      refine lv_iconst (v := -1) hx hb dX2_usesBehind_47 (by decide) ?_
      refine lv_ixor hx hb dX2_usesBehind_48 ?_
      refine lv_iand hx hb dX2_usesBehind_49 ?_
      refine lv_aload_n hx hb dX2_usesBehind_50 rfl (lv_at hl 1 rfl) ?_
      refine gf_X2_acts C0 hw dX2_usesBehind_51 ?_
      refine lv_iload hx hb dX2_usesBehind_54 (lv_at hl 0 rfl) ?_
      refine clVI (As := [.int r22]) (rest := [.int ((gC_usedL S22 (r22).toNatClampNeg) &&& (r44 ^^^ (-1 : Int32))), .int x2]) (ci := 0) (k := 4) C0 (m_X0_usedAt l D ad cI cJ cZ S44 r22 _ h) cal_X0_usedAt kw_192 kw_191 kw_190 rfl rfl rfl rfl hl.1 rfl (Nat.le_of_ble_eq_true rfl) ⟨Nat.le_of_ble_eq_true rfl, Nat.le_of_ble_eq_true rfl⟩ rfl rfl dX2_usesBehind_56 hw (fun r56 S56 H locs h hw => ?_)
      replace h := h
      refine clSI (As := [.int r56]) (rest := [.int ((gC_usedL S22 (r22).toNatClampNeg) &&& (r44 ^^^ (-1 : Int32))), .int x2]) C0 (m_X2_variableBit l D ad cI cJ cZ S56 r56 _ h) cal_X2_variableBit kw_207 kw_206 rfl hl.1 rfl (Nat.le_of_ble_eq_true rfl) ⟨Nat.le_of_ble_eq_true rfl, Nat.le_of_ble_eq_true rfl⟩ rfl rfl dX2_usesBehind_59 hw (fun r59 S59 H locs h hw => ?_)
      replace h := h
      refine lv_ior hx hb dX2_usesBehind_62 ?_
      refine lv_ior hx hb dX2_usesBehind_63 ?_
      refine lv_topi (fun x2_1 ex2_1 => ?_)
      have h := h x2_1 ex2_1
      refine lv_istore_n (lv' := [(2, .int x2_1), (4, .int r22), (0, .ref (ad 24)), (1, .int x1), (3, .int x3)]) hx hb dX2_usesBehind_64 rfl hl (by decide) rfl (fun ls hl => ?_)
      obtain ⟨x3_2, ex3_2⟩ : ∃ y : Int32, y = x3 + (1 : Int32) := ⟨_, rfl⟩
      refine lv_iinc (v := x3_2) (lv' := [(3, .int x3_2), (2, .int x2_1), (4, .int r22), (0, .ref (ad 24)), (1, .int x1)]) hx hb dX2_usesBehind_65 hl (k := 4) rfl (by rw [ex3_2]; rfl) (by decide) rfl (fun ls hl => ?_)
      have h := h x3_2 ex3_2
      refine lv_goto (tgt := 4) hx hb dX2_usesBehind_68 (by decide) ?_
      replace hl := lv_sub hl [3, 4, 1, 0] rfl
      exact ih x1 x2_1 x3_2 S59 _ _ _ h hw hl
set_option maxHeartbeats 4000000 in
set_option maxRecDepth 100000 in
theorem m_X2_usesBehind (l : Launch) (D : va_G) (ad : Nat → Nat) (cI cJ cZ : ClassId) (S : CS) (x1 : Int32) (post : Int32 → CS → Prop) (h : wp_X2_usesBehind S x1 post) : CI (WC ad cI cJ cZ) D cI cJ cZ l yX2_usesBehind (.code yX2_usesBehind cX2_usesBehind 5 (some .int) :: gt) rm_X2_usesBehind S [.ref (ad 24), .int x1] post := by
  refine enI (by decide) (Nat.le_of_ble_eq_true rfl) ?_
  intro p e s m below meth c A ls C0 hw hl
  have C0 : Cx p s m _ meth c cX2_usesBehind 5 RX2 (some .int) D cI cJ cZ A := C0
  have hl : lv_has ls 5 [(0, .ref (ad 24)), (1, .int x1)] := hl
  have hx := C0.1
  have hb := C0.2.1
  unfold wp_X2_usesBehind at h
  refine lv_iconst (v := 0) hx hb dX2_usesBehind_0 (by decide) ?_
  refine lv_istore_n (lv' := [(2, .int (0 : Int32)), (0, .ref (ad 24)), (1, .int x1)]) hx hb dX2_usesBehind_1 rfl hl (by decide) rfl (fun ls hl => ?_)
  refine lv_iconst (v := 0) hx hb dX2_usesBehind_2 (by decide) ?_
  refine lv_istore_n (lv' := [(3, .int (0 : Int32)), (2, .int (0 : Int32)), (0, .ref (ad 24)), (1, .int x1)]) hx hb dX2_usesBehind_3 rfl hl (by decide) rfl (fun ls hl => ?_)
  replace hl := lv_sub hl [2, 3, 1, 0] rfl
  obtain ⟨n, h⟩ := h
  exact mb_X2_usesBehind_4 C0 n x1 (0 : Int32) (0 : Int32) S _ _ ls h hw hl
abbrev rm_X2_flowUses : Room := { frames := 2, cells := 0, slots := 0, locals := 46 }
set_option maxHeartbeats 4000000 in
set_option maxRecDepth 100000 in
theorem mb_X2_flowUses_78 {p : Program} {l : Launch} {e : Env} {s : State} {m : MethodId} {args : Array Value} {below : List Frame} {meth : Method} {c : Code} {D : va_G} {ad : Nat → Nat} {cI cJ cZ : ClassId} {A : Nat → Prop} {post : CS → Prop} (C0 : Cx p s m args meth c cX2_flowUses 6 RX2 none D cI cJ cZ A) (K26 : Int32 → Int32 → Int32 → CS → Prop) (hK26 : ∀ (x1 : Int32) (x2 : Int32) (x3 : Int32) (S : CS) (H : Heap) (locs : List Loc) (ls : Array Slot), K26 x1 x2 x3 S → Wd (WC ad cI cJ cZ) D A s.heap H locs S → lv_has ls 6 [(0, .ref (ad 24)), (1, .int x1), (2, .int x2), (3, .int x3)] → W p l e rm_X2_flowUses s m args below meth c H locs 0 0 (QV (WC ad cI cJ cZ) D A s args below post) (F0 m 26 ls [])) :
 ∀ (x1 : Int32) (x2 : Int32) (x3 : Int32) (S : CS) (H : Heap) (locs : List Loc) (ls : Array Slot), wp_X2_flowUses_78 K26 post x1 x2 x3 S → Wd (WC ad cI cJ cZ) D A s.heap H locs S → lv_has ls 6 [(0, .ref (ad 24)), (1, .int x1), (2, .int x2), (3, .int x3)] → W p l e rm_X2_flowUses s m args below meth c H locs 0 0 (QV (WC ad cI cJ cZ) D A s args below post) (F0 m 78 ls []) := by
  have hx := C0.1
  have hb := C0.2.1
  intro x1 x2 x3 S H locs ls h hw hl
  unfold wp_X2_flowUses_78 at h
  obtain ⟨x3_1, ex3_1⟩ : ∃ y : Int32, y = x3 + (1 : Int32) := ⟨_, rfl⟩
  refine lv_iinc (v := x3_1) (lv' := [(3, .int x3_1), (0, .ref (ad 24)), (1, .int x1), (2, .int x2)]) hx hb dX2_flowUses_78 hl (k := 3) rfl (by rw [ex3_1]; rfl) (by decide) rfl (fun ls hl => ?_)
  have h := h x3_1 ex3_1
  refine lv_goto (tgt := 26) hx hb dX2_flowUses_81 (by decide) ?_
  replace hl := lv_sub hl [1, 2, 3, 0] rfl
  exact hK26 x1 x2 x3_1 S _ _ _ h hw hl
set_option maxHeartbeats 4000000 in
set_option maxRecDepth 100000 in
theorem mb_X2_flowUses_26 {p : Program} {l : Launch} {e : Env} {s : State} {m : MethodId} {args : Array Value} {below : List Frame} {meth : Method} {c : Code} {D : va_G} {ad : Nat → Nat} {cI cJ cZ : ClassId} {A : Nat → Prop} {post : CS → Prop} (C0 : Cx p s m args meth c cX2_flowUses 6 RX2 none D cI cJ cZ A) (K12 : Int32 → Int32 → CS → Prop) (hK12 : ∀ (x1 : Int32) (x2 : Int32) (S : CS) (H : Heap) (locs : List Loc) (ls : Array Slot), K12 x1 x2 S → Wd (WC ad cI cJ cZ) D A s.heap H locs S → lv_has ls 6 [(0, .ref (ad 24)), (1, .int x1), (2, .int x2)] → W p l e rm_X2_flowUses s m args below meth c H locs 0 0 (QV (WC ad cI cJ cZ) D A s args below post) (F0 m 12 ls [])) :
 ∀ (n : Nat) (x1 : Int32) (x2 : Int32) (x3 : Int32) (S : CS) (H : Heap) (locs : List Loc) (ls : Array Slot), wp_X2_flowUses_26 K12 post n x1 x2 x3 S → Wd (WC ad cI cJ cZ) D A s.heap H locs S → lv_has ls 6 [(0, .ref (ad 24)), (1, .int x1), (2, .int x2), (3, .int x3)] → W p l e rm_X2_flowUses s m args below meth c H locs 0 0 (QV (WC ad cI cJ cZ) D A s args below post) (F0 m 26 ls []) := by
  have hx := C0.1
  have hb := C0.2.1
  intro n
  induction n with
  | zero => intro x1 x2 x3 S H locs ls h; exact h.elim
  | succ n ih =>
    intro x1 x2 x3 S H locs ls h hw hl
    replace h : ws_X2_flowUses_26 (wp_X2_flowUses_26 K12 post n) K12 post x1 x2 x3 S := h
    unfold ws_X2_flowUses_26 at h
    refine lv_iload_n hx hb dX2_flowUses_26 rfl (lv_at hl 3 rfl) ?_
    refine lv_aload_n hx hb dX2_flowUses_27 rfl (lv_at hl 0 rfl) ?_
    refine gf_X2_ways C0 hw dX2_flowUses_28 ?_
    refine clVI (As := []) (rest := [.int x3]) (ci := 4) (k := 14) C0 (m_X5_size l D ad cI cJ cZ S _ h) cal_X5_size kw_119 kw_118 kw_172 rfl rfl rfl rfl hl.1 rfl (Nat.le_of_ble_eq_true rfl) ⟨Nat.le_of_ble_eq_true rfl, Nat.le_of_ble_eq_true rfl⟩ rfl rfl dX2_flowUses_31 hw (fun r31 S31 H locs h hw => ?_)
    replace h := h
    refine lv_icmp_ge (tgt := 84) hx hb dX2_flowUses_34 (by decide) (fun c34 => ?_) (fun c34 => ?_)
    · have h := h.1 c34
      obtain ⟨x2_1, ex2_1⟩ : ∃ y : Int32, y = x2 + (1 : Int32) := ⟨_, rfl⟩
      refine lv_iinc (v := x2_1) (lv' := [(2, .int x2_1), (0, .ref (ad 24)), (1, .int x1), (3, .int x3)]) hx hb dX2_flowUses_84 hl (k := 2) rfl (by rw [ex2_1]; rfl) (by decide) rfl (fun ls hl => ?_)
      have h := h x2_1 ex2_1
      refine lv_goto (tgt := 12) hx hb dX2_flowUses_87 (by decide) ?_
      replace hl := lv_sub hl [1, 2, 0] rfl
      exact hK12 x1 x2_1 S31 _ _ _ h hw hl
    · have h := h.2 c34
      refine lv_aload_n hx hb dX2_flowUses_37 rfl (lv_at hl 0 rfl) ?_
      refine gf_X2_ways C0 hw dX2_flowUses_38 ?_
      refine lv_iload_n hx hb dX2_flowUses_41 rfl (lv_at hl 3 rfl) ?_
      refine clVI (As := [.int x3]) (rest := []) (ci := 4) (k := 14) C0 (m_X5_fromTheEnd l D ad cI cJ cZ S31 x3 _ h) cal_X5_fromTheEnd kw_205 kw_204 kw_203 rfl rfl rfl rfl hl.1 rfl (Nat.le_of_ble_eq_true rfl) ⟨Nat.le_of_ble_eq_true rfl, Nat.le_of_ble_eq_true rfl⟩ rfl rfl dX2_flowUses_42 hw (fun r42 S42 H locs h hw => ?_)
      replace h := h
      refine lv_istore (lv' := [(4, .int r42), (0, .ref (ad 24)), (1, .int x1), (2, .int x2), (3, .int x3)]) hx hb dX2_flowUses_45 hl (by decide) rfl (fun ls hl => ?_)
      refine lv_aload_n hx hb dX2_flowUses_47 rfl (lv_at hl 1 rfl) ?_
      refine lv_iload hx hb dX2_flowUses_48 (lv_at hl 0 rfl) ?_
      refine clVI (As := [.int r42]) (rest := []) (ci := 2) (k := 24) C0 (m_X2_usesBehind l D ad cI cJ cZ S42 r42 _ h) cal_X2_usesBehind kw_210 kw_209 kw_208 rfl rfl rfl rfl hl.1 rfl (Nat.le_of_ble_eq_true rfl) ⟨Nat.le_of_ble_eq_true rfl, Nat.le_of_ble_eq_true rfl⟩ rfl rfl dX2_flowUses_50 hw (fun r50 S50 H locs h hw => ?_)
      replace h := h
      refine lv_istore (lv' := [(5, .int r50), (4, .int r42), (0, .ref (ad 24)), (1, .int x1), (2, .int x2), (3, .int x3)]) hx hb dX2_flowUses_53 hl (by decide) rfl (fun ls hl => ?_)
      refine lv_iload hx hb dX2_flowUses_55 (lv_at hl 0 rfl) ?_
      refine lv_aload_n hx hb dX2_flowUses_57 rfl (lv_at hl 2 rfl) ?_
      refine gf_X2_usedLater C0 hw dX2_flowUses_58 ?_
      refine lv_iload hx hb dX2_flowUses_61 (lv_at hl 1 rfl) ?_
      refine ld_C_usedL C0 hw h.1 dX2_flowUses_63 ?_
      have h := h.2
      refine lv_icmp_eq (tgt := 78) hx hb dX2_flowUses_64 (by decide) (fun c64 => ?_) (fun c64 => ?_)
      · have h := h.1 c64
        replace hl := lv_sub hl [2, 3, 4, 5] rfl
        exact mb_X2_flowUses_78 C0 _ ih x1 x2 x3 S50 _ _ ls h hw hl
      · have h := h.2 c64
        refine lv_aload_n hx hb dX2_flowUses_67 rfl (lv_at hl 2 rfl) ?_
        refine gf_X2_usedLater C0 hw dX2_flowUses_68 ?_
        refine lv_iload hx hb dX2_flowUses_71 (lv_at hl 1 rfl) ?_
        refine lv_iload hx hb dX2_flowUses_73 (lv_at hl 0 rfl) ?_
        refine st_C_usedL C0 hw h.1 dX2_flowUses_75 (fun H locs hw => ?_)
        have h := h.2
        obtain ⟨S_2, eS_2⟩ : ∃ z, z = sC_usedL S50 (upd (gC_usedL S50) (r42).toNatClampNeg r50) := ⟨_, rfl⟩
        rw [← eS_2] at hw
        have h := h S_2 eS_2
        refine lv_iconst (v := 1) hx hb dX2_flowUses_76 (by decide) ?_
        refine lv_istore_n (lv' := [(1, .int (1 : Int32)), (5, .int r50), (4, .int r42), (0, .ref (ad 24)), (2, .int x2), (3, .int x3)]) hx hb dX2_flowUses_77 rfl hl (by decide) rfl (fun ls hl => ?_)
        replace hl := lv_sub hl [3, 0, 4, 5] rfl
        exact mb_X2_flowUses_78 C0 _ ih (1 : Int32) x2 x3 S_2 _ _ ls h hw hl
set_option maxHeartbeats 4000000 in
set_option maxRecDepth 100000 in
theorem mb_X2_flowUses_12 {p : Program} {l : Launch} {e : Env} {s : State} {m : MethodId} {args : Array Value} {below : List Frame} {meth : Method} {c : Code} {D : va_G} {ad : Nat → Nat} {cI cJ cZ : ClassId} {A : Nat → Prop} {post : CS → Prop} (C0 : Cx p s m args meth c cX2_flowUses 6 RX2 none D cI cJ cZ A) :
 ∀ (n : Nat) (x1 : Int32) (x2 : Int32) (S : CS) (H : Heap) (locs : List Loc) (ls : Array Slot), wp_X2_flowUses_12 post n x1 x2 S → Wd (WC ad cI cJ cZ) D A s.heap H locs S → lv_has ls 6 [(0, .ref (ad 24)), (1, .int x1), (2, .int x2)] → W p l e rm_X2_flowUses s m args below meth c H locs 0 0 (QV (WC ad cI cJ cZ) D A s args below post) (F0 m 12 ls []) := by
  have hx := C0.1
  have hb := C0.2.1
  intro n
  induction n with
  | zero => intro x1 x2 S H locs ls h; exact h.elim
  | succ n ih =>
    intro x1 x2 S H locs ls h hw hl
    replace h : ws_X2_flowUses_12 (wp_X2_flowUses_12  post n)  post x1 x2 S := h
    unfold ws_X2_flowUses_12 at h
    refine lv_iload_n hx hb dX2_flowUses_12 rfl (lv_at hl 2 rfl) ?_
    refine lv_ldc (v := 144001) hx hb C0.2.2.2.2.1 (C0.2.2.2.2.2.1 _ kw_199) dX2_flowUses_13 ?_
    refine lv_icmp_ge (tgt := 90) hx hb dX2_flowUses_15 (by decide) (fun c15 => ?_) (fun c15 => ?_)
    · have h := h.1 c15
      exact rtV C0 hw h dX2_flowUses_90
    · have h := h.2 c15
      refine lv_iload_n hx hb dX2_flowUses_18 rfl (lv_at hl 1 rfl) ?_
      refine lv_if_eq (tgt := 90) hx hb dX2_flowUses_19 (by decide) (fun c19 => ?_) (fun c19 => ?_)
      · have h := h.1 c19
        exact rtV C0 hw h dX2_flowUses_90
      · have h := h.2 c19
        refine lv_iconst (v := 0) hx hb dX2_flowUses_22 (by decide) ?_
        refine lv_istore_n (lv' := [(1, .int (0 : Int32)), (0, .ref (ad 24)), (2, .int x2)]) hx hb dX2_flowUses_23 rfl hl (by decide) rfl (fun ls hl => ?_)
        refine lv_iconst (v := 0) hx hb dX2_flowUses_24 (by decide) ?_
        refine lv_istore_n (lv' := [(3, .int (0 : Int32)), (1, .int (0 : Int32)), (0, .ref (ad 24)), (2, .int x2)]) hx hb dX2_flowUses_25 rfl hl (by decide) rfl (fun ls hl => ?_)
        replace hl := lv_sub hl [2, 1, 3, 0] rfl
        obtain ⟨n, h⟩ := h
        exact mb_X2_flowUses_26 C0 _ ih n (0 : Int32) x2 (0 : Int32) S _ _ ls h hw hl
set_option maxHeartbeats 4000000 in
set_option maxRecDepth 100000 in
theorem m_X2_flowUses (l : Launch) (D : va_G) (ad : Nat → Nat) (cI cJ cZ : ClassId) (S : CS)  (post : CS → Prop) (h : wp_X2_flowUses S  post) : CV (WC ad cI cJ cZ) D cI cJ cZ l yX2_flowUses (.code yX2_flowUses cX2_flowUses 6 none :: gt) rm_X2_flowUses S [.ref (ad 24)] post := by
  refine enV (by decide) (Nat.le_of_ble_eq_true rfl) ?_
  intro p e s m below meth c A ls C0 hw hl
  have C0 : Cx p s m _ meth c cX2_flowUses 6 RX2 none D cI cJ cZ A := C0
  have hl : lv_has ls 6 [(0, .ref (ad 24))] := hl
  have hx := C0.1
  have hb := C0.2.1
  unfold wp_X2_flowUses at h
  refine lv_aload_n hx hb dX2_flowUses_0 rfl (lv_at hl 0 rfl) ?_
  refine gf_X2_usedLater C0 hw dX2_flowUses_1 ?_
  refine lv_iconst (v := 0) hx hb dX2_flowUses_4 (by decide) ?_
  refine fl_C_usedL (index := 114) C0 kw_211 hl.1 rfl (Nat.le_of_ble_eq_true rfl) ⟨Nat.le_of_ble_eq_true rfl, Nat.le_of_ble_eq_true rfl⟩ dX2_flowUses_5 hw (fun H locs hw => ?_)
  obtain ⟨S_1, eS_1⟩ : ∃ z, z = sC_usedL S (fl_I 150 (0 : Int32) (gC_usedL S)) := ⟨_, rfl⟩
  rw [← eS_1] at hw
  have h := h S_1 eS_1
  refine lv_iconst (v := 1) hx hb dX2_flowUses_8 (by decide) ?_
  refine lv_istore_n (lv' := [(1, .int (1 : Int32)), (0, .ref (ad 24))]) hx hb dX2_flowUses_9 rfl hl (by decide) rfl (fun ls hl => ?_)
  refine lv_iconst (v := 0) hx hb dX2_flowUses_10 (by decide) ?_
  refine lv_istore_n (lv' := [(2, .int (0 : Int32)), (1, .int (1 : Int32)), (0, .ref (ad 24))]) hx hb dX2_flowUses_11 rfl hl (by decide) rfl (fun ls hl => ?_)
  replace hl := lv_sub hl [2, 1, 0] rfl
  obtain ⟨n, h⟩ := h
  exact mb_X2_flowUses_12 C0 n (1 : Int32) (0 : Int32) S_1 _ _ ls h hw hl
abbrev rm_X2_inForce : Room := { frames := 1, cells := 0, slots := 0, locals := 21 }
set_option maxHeartbeats 4000000 in
set_option maxRecDepth 100000 in
theorem mb_X2_inForce_63 {p : Program} {l : Launch} {e : Env} {s : State} {m : MethodId} {args : Array Value} {below : List Frame} {meth : Method} {c : Code} {D : va_G} {ad : Nat → Nat} {cI cJ cZ : ClassId} {A : Nat → Prop} {post : Int64 → CS → Prop} (C0 : Cx p s m args meth c cX2_inForce 6 RX2 (some .long) D cI cJ cZ A) (K26 : Int32 → Int32 → Int64 → Int32 → CS → Prop) (hK26 : ∀ (x1 : Int32) (x2 : Int32) (x3 : Int64) (x5 : Int32) (S : CS) (H : Heap) (locs : List Loc) (ls : Array Slot), K26 x1 x2 x3 x5 S → Wd (WC ad cI cJ cZ) D A s.heap H locs S → lv_has ls 6 [(0, .ref (ad 24)), (1, .int x1), (2, .int x2), (3, .long x3), (5, .int x5)] → W p l e rm_X2_inForce s m args below meth c H locs 0 0 (QL (WC ad cI cJ cZ) D A s args below post) (F0 m 26 ls [])) :
 ∀ (x1 : Int32) (x2 : Int32) (x3 : Int64) (x5 : Int32) (S : CS) (H : Heap) (locs : List Loc) (ls : Array Slot), wp_X2_inForce_63 K26 post x1 x2 x3 x5 S → Wd (WC ad cI cJ cZ) D A s.heap H locs S → lv_has ls 6 [(0, .ref (ad 24)), (1, .int x1), (2, .int x2), (3, .long x3), (5, .int x5)] → W p l e rm_X2_inForce s m args below meth c H locs 0 0 (QL (WC ad cI cJ cZ) D A s args below post) (F0 m 63 ls []) := by
  have hx := C0.1
  have hb := C0.2.1
  intro x1 x2 x3 x5 S H locs ls h hw hl
  unfold wp_X2_inForce_63 at h
  obtain ⟨x5_1, ex5_1⟩ : ∃ y : Int32, y = x5 + (1 : Int32) := ⟨_, rfl⟩
  refine lv_iinc (v := x5_1) (lv' := [(5, .int x5_1), (0, .ref (ad 24)), (1, .int x1), (2, .int x2), (3, .long x3)]) hx hb dX2_inForce_63 hl (k := 4) rfl (by rw [ex5_1]; rfl) (by decide) rfl (fun ls hl => ?_)
  have h := h x5_1 ex5_1
  refine lv_goto (tgt := 26) hx hb dX2_inForce_66 (by decide) ?_
  replace hl := lv_sub hl [1, 2, 3, 4, 0] rfl
  exact hK26 x1 x2 x3 x5_1 S _ _ _ h hw hl
set_option maxHeartbeats 4000000 in
set_option maxRecDepth 100000 in
theorem mb_X2_inForce_26 {p : Program} {l : Launch} {e : Env} {s : State} {m : MethodId} {args : Array Value} {below : List Frame} {meth : Method} {c : Code} {D : va_G} {ad : Nat → Nat} {cI cJ cZ : ClassId} {A : Nat → Prop} {post : Int64 → CS → Prop} (C0 : Cx p s m args meth c cX2_inForce 6 RX2 (some .long) D cI cJ cZ A) :
 ∀ (n : Nat) (x1 : Int32) (x2 : Int32) (x3 : Int64) (x5 : Int32) (S : CS) (H : Heap) (locs : List Loc) (ls : Array Slot), wp_X2_inForce_26 post n x1 x2 x3 x5 S → Wd (WC ad cI cJ cZ) D A s.heap H locs S → lv_has ls 6 [(0, .ref (ad 24)), (1, .int x1), (2, .int x2), (3, .long x3), (5, .int x5)] → W p l e rm_X2_inForce s m args below meth c H locs 0 0 (QL (WC ad cI cJ cZ) D A s args below post) (F0 m 26 ls []) := by
  have hx := C0.1
  have hb := C0.2.1
  intro n
  induction n with
  | zero => intro x1 x2 x3 x5 S H locs ls h; exact h.elim
  | succ n ih =>
    intro x1 x2 x3 x5 S H locs ls h hw hl
    replace h : ws_X2_inForce_26 (wp_X2_inForce_26  post n)  post x1 x2 x3 x5 S := h
    unfold ws_X2_inForce_26 at h
    refine lv_iload hx hb dX2_inForce_26 (lv_at hl 4 rfl) ?_
    refine lv_aload_n hx hb dX2_inForce_28 rfl (lv_at hl 0 rfl) ?_
    refine gf_X2_variables C0 hw dX2_inForce_29 ?_
    refine clVI (As := []) (rest := [.int x5]) (ci := 3) (k := 1) C0 (m_X4_size l D ad cI cJ cZ S _ h) cal_X4_size kw_178 kw_177 kw_176 rfl rfl rfl rfl hl.1 rfl (Nat.le_of_ble_eq_true rfl) ⟨Nat.le_of_ble_eq_true rfl, Nat.le_of_ble_eq_true rfl⟩ rfl rfl dX2_inForce_32 hw (fun r32 S32 H locs h hw => ?_)
    replace h := h
    refine lv_icmp_ge (tgt := 69) hx hb dX2_inForce_35 (by decide) (fun c35 => ?_) (fun c35 => ?_)
    · have h := h.1 c35
      refine lv_lload_n hx hb dX2_inForce_69 rfl (lv_at hl 3 rfl) ?_
      exact rtL C0 hw h dX2_inForce_70
    · have h := h.2 c35
      refine lv_iload_n hx hb dX2_inForce_38 rfl (lv_at hl 2 rfl) ?_
      refine lv_iload hx hb dX2_inForce_39 (lv_at hl 4 rfl) ?_
      refine clSI (As := [.int x5]) (rest := [.int x2]) C0 (m_X2_variableBit l D ad cI cJ cZ S32 x5 _ h) cal_X2_variableBit kw_207 kw_206 rfl hl.1 rfl (Nat.le_of_ble_eq_true rfl) ⟨Nat.le_of_ble_eq_true rfl, Nat.le_of_ble_eq_true rfl⟩ rfl rfl dX2_inForce_41 hw (fun r41 S41 H locs h hw => ?_)
      replace h := h
      refine lv_iand hx hb dX2_inForce_44 ?_
      refine lv_if_eq (tgt := 63) hx hb dX2_inForce_45 (by decide) (fun c45 => ?_) (fun c45 => ?_)
      · have h := h.1 c45
        replace hl := lv_sub hl [0, 1, 2, 3, 4] rfl
        exact mb_X2_inForce_63 C0 _ ih x1 x2 x3 x5 S41 _ _ ls h hw hl
      · have h := h.2 c45
        refine lv_lload_n hx hb dX2_inForce_48 rfl (lv_at hl 3 rfl) ?_
        refine lv_aload_n hx hb dX2_inForce_49 rfl (lv_at hl 0 rfl) ?_
        refine gf_X2_holdings C0 hw dX2_inForce_50 ?_
        refine lv_iload_n hx hb dX2_inForce_53 rfl (lv_at hl 1 rfl) ?_
        refine lv_bipush (v := 16) hx hb dX2_inForce_54 (by decide) ?_
        refine lv_imul hx hb dX2_inForce_56 ?_
        refine lv_iload hx hb dX2_inForce_57 (lv_at hl 4 rfl) ?_
        refine lv_iadd hx hb dX2_inForce_59 ?_
        refine ld_C_holdings C0 hw h.1 dX2_inForce_60 ?_
        have h := h.2
        refine lv_lor hx hb dX2_inForce_61 ?_
        refine lv_topl (fun x3_1 ex3_1 => ?_)
        have h := h x3_1 ex3_1
        refine lv_lstore_n (lv' := [(3, .long x3_1), (0, .ref (ad 24)), (1, .int x1), (2, .int x2), (5, .int x5)]) hx hb dX2_inForce_62 rfl hl (by decide) rfl (fun ls hl => ?_)
        replace hl := lv_sub hl [1, 2, 3, 0, 4] rfl
        exact mb_X2_inForce_63 C0 _ ih x1 x2 x3_1 x5 S41 _ _ ls h hw hl
set_option maxHeartbeats 4000000 in
set_option maxRecDepth 100000 in
theorem m_X2_inForce (l : Launch) (D : va_G) (ad : Nat → Nat) (cI cJ cZ : ClassId) (S : CS) (x1 : Int32) (post : Int64 → CS → Prop) (h : wp_X2_inForce S x1 post) : CL (WC ad cI cJ cZ) D cI cJ cZ l yX2_inForce (.code yX2_inForce cX2_inForce 6 (some .long) :: gt) rm_X2_inForce S [.ref (ad 24), .int x1] post := by
  refine enL (by decide) (Nat.le_of_ble_eq_true rfl) ?_
  intro p e s m below meth c A ls C0 hw hl
  have C0 : Cx p s m _ meth c cX2_inForce 6 RX2 (some .long) D cI cJ cZ A := C0
  have hl : lv_has ls 6 [(0, .ref (ad 24)), (1, .int x1)] := hl
  have hx := C0.1
  have hb := C0.2.1
  unfold wp_X2_inForce at h
  refine lv_aload_n hx hb dX2_inForce_0 rfl (lv_at hl 0 rfl) ?_
  refine gf_X2_usedLater C0 hw dX2_inForce_1 ?_
  refine lv_iload_n hx hb dX2_inForce_4 rfl (lv_at hl 1 rfl) ?_
  refine ld_C_usedL C0 hw h.1 dX2_inForce_5 ?_
  have h := h.2
  refine lv_aload_n hx hb dX2_inForce_6 rfl (lv_at hl 0 rfl) ?_
  refine gf_X2_acts C0 hw dX2_inForce_7 ?_
  refine lv_iload_n hx hb dX2_inForce_10 rfl (lv_at hl 1 rfl) ?_
  refine clVI (As := [.int x1]) (rest := [.int (gC_usedL S (x1).toNatClampNeg)]) (ci := 0) (k := 4) C0 (m_X0_renewedAt l D ad cI cJ cZ S x1 _ h) cal_X0_renewedAt kw_189 kw_188 kw_187 rfl rfl rfl rfl hl.1 rfl (Nat.le_of_ble_eq_true rfl) ⟨Nat.le_of_ble_eq_true rfl, Nat.le_of_ble_eq_true rfl⟩ rfl rfl dX2_inForce_11 hw (fun r11 S11 H locs h hw => ?_)
  replace h := h
  refine clSI (As := [.int r11]) (rest := [.int (gC_usedL S (x1).toNatClampNeg)]) C0 (m_X2_variableBit l D ad cI cJ cZ S11 r11 _ h) cal_X2_variableBit kw_207 kw_206 rfl hl.1 rfl (Nat.le_of_ble_eq_true rfl) ⟨Nat.le_of_ble_eq_true rfl, Nat.le_of_ble_eq_true rfl⟩ rfl rfl dX2_inForce_14 hw (fun r14 S14 H locs h hw => ?_)
  replace h := h
  refine lv_iconst (v := -1) hx hb dX2_inForce_17 (by decide) ?_
  refine lv_ixor hx hb dX2_inForce_18 ?_
  refine lv_iand hx hb dX2_inForce_19 ?_
  refine lv_topi (fun x2_1 ex2_1 => ?_)
  have h := h x2_1 ex2_1
  refine lv_istore_n (lv' := [(2, .int x2_1), (0, .ref (ad 24)), (1, .int x1)]) hx hb dX2_inForce_20 rfl hl (by decide) rfl (fun ls hl => ?_)
  refine lv_lconst (v := 0) hx hb dX2_inForce_21 (by decide) ?_
  refine lv_lstore_n (lv' := [(3, .long (0 : Int64)), (2, .int x2_1), (0, .ref (ad 24)), (1, .int x1)]) hx hb dX2_inForce_22 rfl hl (by decide) rfl (fun ls hl => ?_)
  refine lv_iconst (v := 0) hx hb dX2_inForce_23 (by decide) ?_
  refine lv_istore (lv' := [(5, .int (0 : Int32)), (3, .long (0 : Int64)), (2, .int x2_1), (0, .ref (ad 24)), (1, .int x1)]) hx hb dX2_inForce_24 hl (by decide) rfl (fun ls hl => ?_)
  replace hl := lv_sub hl [3, 4, 2, 1, 0] rfl
  obtain ⟨n, h⟩ := h
  exact mb_X2_inForce_26 C0 n x1 x2_1 (0 : Int64) (0 : Int32) S14 _ _ ls h hw hl
abbrev rm_X2_leastClash : Room := { frames := 3, cells := 0, slots := 0, locals := 64 }
set_option maxHeartbeats 4000000 in
set_option maxRecDepth 100000 in
theorem mb_X2_leastClash_120 {p : Program} {l : Launch} {e : Env} {s : State} {m : MethodId} {args : Array Value} {below : List Frame} {meth : Method} {c : Code} {D : va_G} {ad : Nat → Nat} {cI cJ cZ : ClassId} {A : Nat → Prop} {post : Int32 → CS → Prop} (C0 : Cx p s m args meth c cX2_leastClash 6 RX2 (some .int) D cI cJ cZ A) (K54 : Int32 → Int64 → Int32 → CS → Prop) (hK54 : ∀ (x1 : Int32) (x2 : Int64) (x4 : Int32) (S : CS) (H : Heap) (locs : List Loc) (ls : Array Slot), K54 x1 x2 x4 S → Wd (WC ad cI cJ cZ) D A s.heap H locs S → lv_has ls 6 [(0, .ref (ad 24)), (1, .int x1), (2, .long x2), (4, .int x4)] → W p l e rm_X2_leastClash s m args below meth c H locs 0 0 (QI (WC ad cI cJ cZ) D A s args below post) (F0 m 54 ls [])) :
 ∀ (x1 : Int32) (x2 : Int64) (x4 : Int32) (S : CS) (H : Heap) (locs : List Loc) (ls : Array Slot), wp_X2_leastClash_120 K54 post x1 x2 x4 S → Wd (WC ad cI cJ cZ) D A s.heap H locs S → lv_has ls 6 [(0, .ref (ad 24)), (1, .int x1), (2, .long x2), (4, .int x4)] → W p l e rm_X2_leastClash s m args below meth c H locs 0 0 (QI (WC ad cI cJ cZ) D A s args below post) (F0 m 120 ls []) := by
  have hx := C0.1
  have hb := C0.2.1
  intro x1 x2 x4 S H locs ls h hw hl
  unfold wp_X2_leastClash_120 at h
  obtain ⟨x4_1, ex4_1⟩ : ∃ y : Int32, y = x4 + (1 : Int32) := ⟨_, rfl⟩
  refine lv_iinc (v := x4_1) (lv' := [(4, .int x4_1), (0, .ref (ad 24)), (1, .int x1), (2, .long x2)]) hx hb dX2_leastClash_120 hl (k := 3) rfl (by rw [ex4_1]; rfl) (by decide) rfl (fun ls hl => ?_)
  have h := h x4_1 ex4_1
  refine lv_goto (tgt := 54) hx hb dX2_leastClash_123 (by decide) ?_
  replace hl := lv_sub hl [1, 2, 3, 0] rfl
  exact hK54 x1 x2 x4_1 S _ _ _ h hw hl
set_option maxHeartbeats 4000000 in
set_option maxRecDepth 100000 in
theorem mb_X2_leastClash_54 {p : Program} {l : Launch} {e : Env} {s : State} {m : MethodId} {args : Array Value} {below : List Frame} {meth : Method} {c : Code} {D : va_G} {ad : Nat → Nat} {cI cJ cZ : ClassId} {A : Nat → Prop} {post : Int32 → CS → Prop} (C0 : Cx p s m args meth c cX2_leastClash 6 RX2 (some .int) D cI cJ cZ A) :
 ∀ (n : Nat) (x1 : Int32) (x2 : Int64) (x4 : Int32) (S : CS) (H : Heap) (locs : List Loc) (ls : Array Slot), wp_X2_leastClash_54 post n x1 x2 x4 S → Wd (WC ad cI cJ cZ) D A s.heap H locs S → lv_has ls 6 [(0, .ref (ad 24)), (1, .int x1), (2, .long x2), (4, .int x4)] → W p l e rm_X2_leastClash s m args below meth c H locs 0 0 (QI (WC ad cI cJ cZ) D A s args below post) (F0 m 54 ls []) := by
  have hx := C0.1
  have hb := C0.2.1
  intro n
  induction n with
  | zero => intro x1 x2 x4 S H locs ls h; exact h.elim
  | succ n ih =>
    intro x1 x2 x4 S H locs ls h hw hl
    replace h : ws_X2_leastClash_54 (wp_X2_leastClash_54  post n)  post x1 x2 x4 S := h
    unfold ws_X2_leastClash_54 at h
    refine lv_iload hx hb dX2_leastClash_54 (lv_at hl 3 rfl) ?_
    refine lv_aload_n hx hb dX2_leastClash_56 rfl (lv_at hl 0 rfl) ?_
    refine gf_X2_made C0 hw dX2_leastClash_57 ?_
    refine lv_icmp_ge (tgt := 126) hx hb dX2_leastClash_60 (by decide) (fun c60 => ?_) (fun c60 => ?_)
    · have h := h.1 c60
      refine lv_iconst (v := -1) hx hb dX2_leastClash_126 (by decide) ?_
      exact rtI C0 hw h dX2_leastClash_127
    · have h := h.2 c60
      refine lv_lload_n hx hb dX2_leastClash_63 rfl (lv_at hl 2 rfl) ?_
      refine lv_lconst (v := 0) hx hb dX2_leastClash_64 (by decide) ?_
      refine W.lcmp hx hb dX2_leastClash_65 ?_
      refine lv_if_eq (tgt := 126) hx hb dX2_leastClash_66 (by decide) (fun c66 => ?_) (fun c66 => ?_)
      · have h := h.1 c66
        refine lv_iconst (v := -1) hx hb dX2_leastClash_126 (by decide) ?_
        exact rtI C0 hw h dX2_leastClash_127
      · have h := h.2 c66
        refine lv_aload_n hx hb dX2_leastClash_69 rfl (lv_at hl 0 rfl) ?_
        refine gf_X2_acts C0 hw dX2_leastClash_70 ?_
        refine lv_aload_n hx hb dX2_leastClash_73 rfl (lv_at hl 0 rfl) ?_
        refine gf_X2_makers C0 hw dX2_leastClash_74 ?_
        refine lv_iload hx hb dX2_leastClash_77 (lv_at hl 3 rfl) ?_
        refine ld_C_makers C0 hw h.1 dX2_leastClash_79 ?_
        have h := h.2
        refine clVI (As := [.int (gC_makers S (x4).toNatClampNeg)]) (rest := []) (ci := 0) (k := 4) C0 (m_X0_pathAt l D ad cI cJ cZ S (gC_makers S (x4).toNatClampNeg) _ h) cal_X0_pathAt kw_220 kw_219 kw_218 rfl rfl rfl rfl hl.1 rfl (Nat.le_of_ble_eq_true rfl) ⟨Nat.le_of_ble_eq_true rfl, Nat.le_of_ble_eq_true rfl⟩ rfl rfl dX2_leastClash_80 hw (fun r80 S80 H locs h hw => ?_)
        replace h := h
        refine lv_istore (lv' := [(5, .int r80), (0, .ref (ad 24)), (1, .int x1), (2, .long x2), (4, .int x4)]) hx hb dX2_leastClash_83 hl (by decide) rfl (fun ls hl => ?_)
        refine lv_lload_n hx hb dX2_leastClash_85 rfl (lv_at hl 3 rfl) ?_
        refine lv_iload hx hb dX2_leastClash_86 (lv_at hl 4 rfl) ?_
        refine lv_lshr hx hb dX2_leastClash_88 rfl ?_
        refine lv_lconst (v := 1) hx hb dX2_leastClash_89 (by decide) ?_
        refine lv_land hx hb dX2_leastClash_90 ?_
        refine lv_lconst (v := 0) hx hb dX2_leastClash_91 (by decide) ?_
        refine W.lcmp hx hb dX2_leastClash_92 ?_
        refine lv_if_eq (tgt := 120) hx hb dX2_leastClash_93 (by decide) (fun c93 => ?_) (fun c93 => ?_)
        · have h := h.1 c93
          replace hl := lv_sub hl [1, 2, 3, 4] rfl
          exact mb_X2_leastClash_120 C0 _ ih x1 x2 x4 S80 _ _ ls h hw hl
        · have h := h.2 c93
          refine lv_iload hx hb dX2_leastClash_96 (lv_at hl 0 rfl) ?_
          refine lv_aload_n hx hb dX2_leastClash_98 rfl (lv_at hl 1 rfl) ?_
          refine gf_X2_acts C0 hw dX2_leastClash_99 ?_
          refine lv_iload_n hx hb dX2_leastClash_102 rfl (lv_at hl 2 rfl) ?_
          refine clVI (As := [.int x1]) (rest := [.int r80]) (ci := 0) (k := 4) C0 (m_X0_pathAt l D ad cI cJ cZ S80 x1 _ h) cal_X0_pathAt kw_220 kw_219 kw_218 rfl rfl rfl rfl hl.1 rfl (Nat.le_of_ble_eq_true rfl) ⟨Nat.le_of_ble_eq_true rfl, Nat.le_of_ble_eq_true rfl⟩ rfl rfl dX2_leastClash_103 hw (fun r103 S103 H locs h hw => ?_)
          replace h := h
          refine clSI (As := [.int r80, .int r103]) (rest := []) C0 (m_X3_oneBeginsTheOther l D ad cI cJ cZ S103 r80 r103 _ h) cal_X3_oneBeginsTheOther kw_222 kw_221 rfl hl.1 rfl (Nat.le_of_ble_eq_true rfl) ⟨Nat.le_of_ble_eq_true rfl, Nat.le_of_ble_eq_true rfl⟩ rfl rfl dX2_leastClash_106 hw (fun r106 S106 H locs h hw => ?_)
          replace h := h
          refine lv_if_eq (tgt := 120) hx hb dX2_leastClash_109 (by decide) (fun c109 => ?_) (fun c109 => ?_)
          · have h := h.1 c109
            replace hl := lv_sub hl [1, 2, 3, 4] rfl
            exact mb_X2_leastClash_120 C0 _ ih x1 x2 x4 S106 _ _ ls h hw hl
          · have h := h.2 c109
            refine lv_aload_n hx hb dX2_leastClash_112 rfl (lv_at hl 1 rfl) ?_
            refine gf_X2_makers C0 hw dX2_leastClash_113 ?_
            refine lv_iload hx hb dX2_leastClash_116 (lv_at hl 4 rfl) ?_
            refine ld_C_makers C0 hw h.1 dX2_leastClash_118 ?_
            have h := h.2
            exact rtI C0 hw h dX2_leastClash_119
set_option maxHeartbeats 4000000 in
set_option maxRecDepth 100000 in
theorem mb_X2_leastClash_51 {p : Program} {l : Launch} {e : Env} {s : State} {m : MethodId} {args : Array Value} {below : List Frame} {meth : Method} {c : Code} {D : va_G} {ad : Nat → Nat} {cI cJ cZ : ClassId} {A : Nat → Prop} {post : Int32 → CS → Prop} (C0 : Cx p s m args meth c cX2_leastClash 6 RX2 (some .int) D cI cJ cZ A) :
 ∀ (x1 : Int32) (x2 : Int64) (S : CS) (H : Heap) (locs : List Loc) (ls : Array Slot), wp_X2_leastClash_51 post x1 x2 S → Wd (WC ad cI cJ cZ) D A s.heap H locs S → lv_has ls 6 [(0, .ref (ad 24)), (1, .int x1), (2, .long x2)] → W p l e rm_X2_leastClash s m args below meth c H locs 0 0 (QI (WC ad cI cJ cZ) D A s args below post) (F0 m 51 ls []) := by
  have hx := C0.1
  have hb := C0.2.1
  intro x1 x2 S H locs ls h hw hl
  unfold wp_X2_leastClash_51 at h
  refine lv_iconst (v := 0) hx hb dX2_leastClash_51 (by decide) ?_
  refine lv_istore (lv' := [(4, .int (0 : Int32)), (0, .ref (ad 24)), (1, .int x1), (2, .long x2)]) hx hb dX2_leastClash_52 hl (by decide) rfl (fun ls hl => ?_)
  replace hl := lv_sub hl [1, 2, 3, 0] rfl
  obtain ⟨n, h⟩ := h
  exact mb_X2_leastClash_54 C0 n x1 x2 (0 : Int32) S _ _ ls h hw hl
set_option maxHeartbeats 4000000 in
set_option maxRecDepth 100000 in
theorem m_X2_leastClash (l : Launch) (D : va_G) (ad : Nat → Nat) (cI cJ cZ : ClassId) (S : CS) (x1 : Int32) (post : Int32 → CS → Prop) (h : wp_X2_leastClash S x1 post) : CI (WC ad cI cJ cZ) D cI cJ cZ l yX2_leastClash (.code yX2_leastClash cX2_leastClash 6 (some .int) :: gt) rm_X2_leastClash S [.ref (ad 24), .int x1] post := by
  refine enI (by decide) (Nat.le_of_ble_eq_true rfl) ?_
  intro p e s m below meth c A ls C0 hw hl
  have C0 : Cx p s m _ meth c cX2_leastClash 6 RX2 (some .int) D cI cJ cZ A := C0
  have hl : lv_has ls 6 [(0, .ref (ad 24)), (1, .int x1)] := hl
  have hx := C0.1
  have hb := C0.2.1
  unfold wp_X2_leastClash at h
  refine lv_aload_n hx hb dX2_leastClash_0 rfl (lv_at hl 0 rfl) ?_
  refine gf_X2_acts C0 hw dX2_leastClash_1 ?_
  refine lv_iload_n hx hb dX2_leastClash_4 rfl (lv_at hl 1 rfl) ?_
  refine clVI (As := [.int x1]) (rest := []) (ci := 0) (k := 4) C0 (m_X0_canClash l D ad cI cJ cZ S x1 _ h) cal_X0_canClash kw_225 kw_224 kw_223 rfl rfl rfl rfl hl.1 rfl (Nat.le_of_ble_eq_true rfl) ⟨Nat.le_of_ble_eq_true rfl, Nat.le_of_ble_eq_true rfl⟩ rfl rfl dX2_leastClash_5 hw (fun r5 S5 H locs h hw => ?_)
  replace h := h
  refine lv_if_ne (tgt := 13) hx hb dX2_leastClash_8 (by decide) (fun c8 => ?_) (fun c8 => ?_)
  · have h := h.1 c8
    refine lv_aload_n hx hb dX2_leastClash_13 rfl (lv_at hl 0 rfl) ?_
    refine lv_iload_n hx hb dX2_leastClash_14 rfl (lv_at hl 1 rfl) ?_
    refine clVL (As := [.int x1]) (rest := []) (ci := 2) (k := 24) C0 (m_X2_inForce l D ad cI cJ cZ S5 x1 _ h) cal_X2_inForce kw_228 kw_227 kw_226 rfl rfl rfl rfl hl.1 rfl (Nat.le_of_ble_eq_true rfl) ⟨Nat.le_of_ble_eq_true rfl, Nat.le_of_ble_eq_true rfl⟩ rfl rfl dX2_leastClash_15 hw (fun r15 S15 H locs h hw => ?_)
    replace h := h
    refine lv_aload_n hx hb dX2_leastClash_18 rfl (lv_at hl 0 rfl) ?_
    refine gf_X2_loansOf C0 hw dX2_leastClash_19 ?_
    refine lv_aload_n hx hb dX2_leastClash_22 rfl (lv_at hl 0 rfl) ?_
    refine gf_X2_acts C0 hw dX2_leastClash_23 ?_
    refine lv_iload_n hx hb dX2_leastClash_26 rfl (lv_at hl 1 rfl) ?_
    refine clVI (As := [.int x1]) (rest := [.ref (ad 27), .long r15]) (ci := 0) (k := 4) C0 (m_X0_variableAt l D ad cI cJ cZ S15 x1 _ h) cal_X0_variableAt kw_163 kw_162 kw_161 rfl rfl rfl rfl hl.1 rfl (Nat.le_of_ble_eq_true rfl) ⟨Nat.le_of_ble_eq_true rfl, Nat.le_of_ble_eq_true rfl⟩ rfl rfl dX2_leastClash_27 hw (fun r27 S27 H locs h hw => ?_)
    replace h := h
    refine ld_C_loansOf C0 hw h.1 dX2_leastClash_30 ?_
    have h := h.2
    refine lv_land hx hb dX2_leastClash_31 ?_
    refine lv_topl (fun x2_1 ex2_1 => ?_)
    have h := h x2_1 ex2_1
    refine lv_lstore_n (lv' := [(2, .long x2_1), (0, .ref (ad 24)), (1, .int x1)]) hx hb dX2_leastClash_32 rfl hl (by decide) rfl (fun ls hl => ?_)
    refine lv_aload_n hx hb dX2_leastClash_33 rfl (lv_at hl 1 rfl) ?_
    refine gf_X2_acts C0 hw dX2_leastClash_34 ?_
    refine lv_iload_n hx hb dX2_leastClash_37 rfl (lv_at hl 2 rfl) ?_
    refine clVI (As := [.int x1]) (rest := []) (ci := 0) (k := 4) C0 (m_X0_onlyLooks l D ad cI cJ cZ S27 x1 _ h) cal_X0_onlyLooks kw_231 kw_230 kw_229 rfl rfl rfl rfl hl.1 rfl (Nat.le_of_ble_eq_true rfl) ⟨Nat.le_of_ble_eq_true rfl, Nat.le_of_ble_eq_true rfl⟩ rfl rfl dX2_leastClash_38 hw (fun r38 S38 H locs h hw => ?_)
    replace h := h
    refine lv_if_eq (tgt := 51) hx hb dX2_leastClash_41 (by decide) (fun c41 => ?_) (fun c41 => ?_)
    · have h := h.1 c41
      replace hl := lv_sub hl [1, 2, 0] rfl
      exact mb_X2_leastClash_51 C0 x1 x2_1 S38 _ _ ls h hw hl
    · have h := h.2 c41
      refine lv_lload_n hx hb dX2_leastClash_44 rfl (lv_at hl 0 rfl) ?_
      refine lv_aload_n hx hb dX2_leastClash_45 rfl (lv_at hl 1 rfl) ?_
      refine gf_X2_soleLoans C0 hw dX2_leastClash_46 ?_
      refine lv_land hx hb dX2_leastClash_49 ?_
      refine lv_topl (fun x2_2 ex2_2 => ?_)
      have h := h x2_2 ex2_2
      refine lv_lstore_n (lv' := [(2, .long x2_2), (0, .ref (ad 24)), (1, .int x1)]) hx hb dX2_leastClash_50 rfl hl (by decide) rfl (fun ls hl => ?_)
      replace hl := lv_sub hl [1, 2, 0] rfl
      exact mb_X2_leastClash_51 C0 x1 x2_2 S38 _ _ ls h hw hl
  · have h := h.2 c8
    refine lv_iconst (v := -1) hx hb dX2_leastClash_11 (by decide) ?_
    exact rtI C0 hw h dX2_leastClash_12
abbrev rm_X1_leadsOn : Room := { frames := 1, cells := 0, slots := 0, locals := 22 }
set_option maxHeartbeats 4000000 in
set_option maxRecDepth 100000 in
theorem mb_X1_leadsOn_2 {p : Program} {l : Launch} {e : Env} {s : State} {m : MethodId} {args : Array Value} {below : List Frame} {meth : Method} {c : Code} {D : va_G} {ad : Nat → Nat} {cI cJ cZ : ClassId} {A : Nat → Prop} {post : Int32 → CS → Prop} (C0 : Cx p s m args meth c cX1_leadsOn 3 RX1 (some .boolean) D cI cJ cZ A) :
 ∀ (n : Nat) (x1 : Int32) (x2 : Int32) (S : CS) (H : Heap) (locs : List Loc) (ls : Array Slot), wp_X1_leadsOn_2 post n x1 x2 S → Wd (WC ad cI cJ cZ) D A s.heap H locs S → lv_has ls 3 [(0, .ref (ad 20)), (1, .int x1), (2, .int x2)] → W p l e rm_X1_leadsOn s m args below meth c H locs 0 0 (QI (WC ad cI cJ cZ) D A s args below post) (F0 m 2 ls []) := by
  have hx := C0.1
  have hb := C0.2.1
  intro n
  induction n with
  | zero => intro x1 x2 S H locs ls h; exact h.elim
  | succ n ih =>
    intro x1 x2 S H locs ls h hw hl
    replace h : ws_X1_leadsOn_2 (wp_X1_leadsOn_2  post n)  post x1 x2 S := h
    unfold ws_X1_leadsOn_2 at h
    refine lv_iload_n hx hb dX1_leadsOn_2 rfl (lv_at hl 2 rfl) ?_
    refine lv_aload_n hx hb dX1_leadsOn_3 rfl (lv_at hl 0 rfl) ?_
    refine gf_X1_ways C0 hw dX1_leadsOn_4 ?_
    refine lv_iload_n hx hb dX1_leadsOn_7 rfl (lv_at hl 1 rfl) ?_
    refine clVI (As := [.int x1]) (rest := [.int x2]) (ci := 4) (k := 14) C0 (m_X5_nextCount l D ad cI cJ cZ S x1 _ h) cal_X5_nextCount kw_125 kw_124 kw_123 rfl rfl rfl rfl hl.1 rfl (Nat.le_of_ble_eq_true rfl) ⟨Nat.le_of_ble_eq_true rfl, Nat.le_of_ble_eq_true rfl⟩ rfl rfl dX1_leadsOn_8 hw (fun r8 S8 H locs h hw => ?_)
    replace h := h
    refine lv_icmp_ge (tgt := 39) hx hb dX1_leadsOn_11 (by decide) (fun c11 => ?_) (fun c11 => ?_)
    · have h := h.1 c11
      refine lv_iconst (v := 0) hx hb dX1_leadsOn_39 (by decide) ?_
      exact rtZ C0 hw rfl h dX1_leadsOn_40
    · have h := h.2 c11
      refine lv_aload_n hx hb dX1_leadsOn_14 rfl (lv_at hl 0 rfl) ?_
      refine gf_X1_leading C0 hw dX1_leadsOn_15 ?_
      refine lv_aload_n hx hb dX1_leadsOn_18 rfl (lv_at hl 0 rfl) ?_
      refine gf_X1_ways C0 hw dX1_leadsOn_19 ?_
      refine lv_iload_n hx hb dX1_leadsOn_22 rfl (lv_at hl 1 rfl) ?_
      refine lv_iload_n hx hb dX1_leadsOn_23 rfl (lv_at hl 2 rfl) ?_
      refine clVI (As := [.int x1, .int x2]) (rest := [.ref (ad 23)]) (ci := 4) (k := 14) C0 (m_X5_nextOf l D ad cI cJ cZ S8 x1 x2 _ h) cal_X5_nextOf kw_97 kw_96 kw_126 rfl rfl rfl rfl hl.1 rfl (Nat.le_of_ble_eq_true rfl) ⟨Nat.le_of_ble_eq_true rfl, Nat.le_of_ble_eq_true rfl⟩ rfl rfl dX1_leadsOn_24 hw (fun r24 S24 H locs h hw => ?_)
      replace h := h
      refine ld_C_leading C0 hw h.1 dX1_leadsOn_27 ?_
      have h := h.2
      refine lv_if_eq (tgt := 33) hx hb dX1_leadsOn_28 (by decide) (fun c28 => ?_) (fun c28 => ?_)
      · have h := h.1 c28
        obtain ⟨x2_1, ex2_1⟩ : ∃ y : Int32, y = x2 + (1 : Int32) := ⟨_, rfl⟩
        refine lv_iinc (v := x2_1) (lv' := [(2, .int x2_1), (0, .ref (ad 20)), (1, .int x1)]) hx hb dX1_leadsOn_33 hl (k := 2) rfl (by rw [ex2_1]; rfl) (by decide) rfl (fun ls hl => ?_)
        have h := h x2_1 ex2_1
        refine lv_goto (tgt := 2) hx hb dX1_leadsOn_36 (by decide) ?_
        replace hl := lv_sub hl [1, 2, 0] rfl
        exact ih x1 x2_1 S24 _ _ _ h hw hl
      · have h := h.2 c28
        refine lv_iconst (v := 1) hx hb dX1_leadsOn_31 (by decide) ?_
        exact rtZ C0 hw rfl h dX1_leadsOn_32
set_option maxHeartbeats 4000000 in
set_option maxRecDepth 100000 in
theorem m_X1_leadsOn (l : Launch) (D : va_G) (ad : Nat → Nat) (cI cJ cZ : ClassId) (S : CS) (x1 : Int32) (post : Int32 → CS → Prop) (h : wp_X1_leadsOn S x1 post) : CI (WC ad cI cJ cZ) D cI cJ cZ l yX1_leadsOn (.code yX1_leadsOn cX1_leadsOn 3 (some .boolean) :: gt) rm_X1_leadsOn S [.ref (ad 20), .int x1] post := by
  refine enI (by decide) (Nat.le_of_ble_eq_true rfl) ?_
  intro p e s m below meth c A ls C0 hw hl
  have C0 : Cx p s m _ meth c cX1_leadsOn 3 RX1 (some .boolean) D cI cJ cZ A := C0
  have hl : lv_has ls 3 [(0, .ref (ad 20)), (1, .int x1)] := hl
  have hx := C0.1
  have hb := C0.2.1
  unfold wp_X1_leadsOn at h
  refine lv_iconst (v := 0) hx hb dX1_leadsOn_0 (by decide) ?_
  refine lv_istore_n (lv' := [(2, .int (0 : Int32)), (0, .ref (ad 20)), (1, .int x1)]) hx hb dX1_leadsOn_1 rfl hl (by decide) rfl (fun ls hl => ?_)
  replace hl := lv_sub hl [1, 2, 0] rfl
  obtain ⟨n, h⟩ := h
  exact mb_X1_leadsOn_2 C0 n x1 (0 : Int32) S _ _ ls h hw hl
abbrev rm_X1_findLeading : Room := { frames := 2, cells := 0, slots := 0, locals := 44 }
set_option maxHeartbeats 4000000 in
set_option maxRecDepth 100000 in
theorem mb_X1_findLeading_109 {p : Program} {l : Launch} {e : Env} {s : State} {m : MethodId} {args : Array Value} {below : List Frame} {meth : Method} {c : Code} {D : va_G} {ad : Nat → Nat} {cI cJ cZ : ClassId} {A : Nat → Prop} {post : CS → Prop} (C0 : Cx p s m args meth c cX1_findLeading 8 RX1 none D cI cJ cZ A) (K40 : Int64 → Int32 → Int32 → Int32 → CS → Prop) (hK40 : ∀ (x2 : Int64) (x4 : Int32) (x5 : Int32) (x6 : Int32) (S : CS) (H : Heap) (locs : List Loc) (ls : Array Slot), K40 x2 x4 x5 x6 S → Wd (WC ad cI cJ cZ) D A s.heap H locs S → lv_has ls 8 [(0, .ref (ad 20)), (2, .long x2), (4, .int x4), (5, .int x5), (6, .int x6)] → W p l e rm_X1_findLeading s m args below meth c H locs 0 0 (QV (WC ad cI cJ cZ) D A s args below post) (F0 m 40 ls [])) :
 ∀ (x2 : Int64) (x4 : Int32) (x5 : Int32) (x6 : Int32) (S : CS) (H : Heap) (locs : List Loc) (ls : Array Slot), wp_X1_findLeading_109 K40 post x2 x4 x5 x6 S → Wd (WC ad cI cJ cZ) D A s.heap H locs S → lv_has ls 8 [(0, .ref (ad 20)), (2, .long x2), (4, .int x4), (5, .int x5), (6, .int x6)] → W p l e rm_X1_findLeading s m args below meth c H locs 0 0 (QV (WC ad cI cJ cZ) D A s args below post) (F0 m 109 ls []) := by
  have hx := C0.1
  have hb := C0.2.1
  intro x2 x4 x5 x6 S H locs ls h hw hl
  unfold wp_X1_findLeading_109 at h
  obtain ⟨x6_1, ex6_1⟩ : ∃ y : Int32, y = x6 + (1 : Int32) := ⟨_, rfl⟩
  refine lv_iinc (v := x6_1) (lv' := [(6, .int x6_1), (0, .ref (ad 20)), (2, .long x2), (4, .int x4), (5, .int x5)]) hx hb dX1_findLeading_109 hl (k := 4) rfl (by rw [ex6_1]; rfl) (by decide) rfl (fun ls hl => ?_)
  have h := h x6_1 ex6_1
  refine lv_goto (tgt := 40) hx hb dX1_findLeading_112 (by decide) ?_
  replace hl := lv_sub hl [1, 2, 3, 4, 0] rfl
  exact hK40 x2 x4 x5 x6_1 S _ _ _ h hw hl
set_option maxHeartbeats 4000000 in
set_option maxRecDepth 100000 in
theorem mb_X1_findLeading_40 {p : Program} {l : Launch} {e : Env} {s : State} {m : MethodId} {args : Array Value} {below : List Frame} {meth : Method} {c : Code} {D : va_G} {ad : Nat → Nat} {cI cJ cZ : ClassId} {A : Nat → Prop} {post : CS → Prop} (C0 : Cx p s m args meth c cX1_findLeading 8 RX1 none D cI cJ cZ A) (K21 : Int64 → Int32 → Int32 → CS → Prop) (hK21 : ∀ (x2 : Int64) (x4 : Int32) (x5 : Int32) (S : CS) (H : Heap) (locs : List Loc) (ls : Array Slot), K21 x2 x4 x5 S → Wd (WC ad cI cJ cZ) D A s.heap H locs S → lv_has ls 8 [(0, .ref (ad 20)), (2, .long x2), (4, .int x4), (5, .int x5)] → W p l e rm_X1_findLeading s m args below meth c H locs 0 0 (QV (WC ad cI cJ cZ) D A s args below post) (F0 m 21 ls [])) :
 ∀ (n : Nat) (x2 : Int64) (x4 : Int32) (x5 : Int32) (x6 : Int32) (S : CS) (H : Heap) (locs : List Loc) (ls : Array Slot), wp_X1_findLeading_40 K21 post n x2 x4 x5 x6 S → Wd (WC ad cI cJ cZ) D A s.heap H locs S → lv_has ls 8 [(0, .ref (ad 20)), (2, .long x2), (4, .int x4), (5, .int x5), (6, .int x6)] → W p l e rm_X1_findLeading s m args below meth c H locs 0 0 (QV (WC ad cI cJ cZ) D A s args below post) (F0 m 40 ls []) := by
  have hx := C0.1
  have hb := C0.2.1
  intro n
  induction n with
  | zero => intro x2 x4 x5 x6 S H locs ls h; exact h.elim
  | succ n ih =>
    intro x2 x4 x5 x6 S H locs ls h hw hl
    replace h : ws_X1_findLeading_40 (wp_X1_findLeading_40 K21 post n) K21 post x2 x4 x5 x6 S := h
    unfold ws_X1_findLeading_40 at h
    refine lv_iload hx hb dX1_findLeading_40 (lv_at hl 4 rfl) ?_
    refine lv_aload_n hx hb dX1_findLeading_42 rfl (lv_at hl 0 rfl) ?_
    refine gf_X1_ways C0 hw dX1_findLeading_43 ?_
    refine clVI (As := []) (rest := [.int x6]) (ci := 4) (k := 14) C0 (m_X5_size l D ad cI cJ cZ S _ h) cal_X5_size kw_119 kw_118 kw_117 rfl rfl rfl rfl hl.1 rfl (Nat.le_of_ble_eq_true rfl) ⟨Nat.le_of_ble_eq_true rfl, Nat.le_of_ble_eq_true rfl⟩ rfl rfl dX1_findLeading_46 hw (fun r46 S46 H locs h hw => ?_)
    replace h := h
    refine lv_icmp_ge (tgt := 115) hx hb dX1_findLeading_49 (by decide) (fun c49 => ?_) (fun c49 => ?_)
    · have h := h.1 c49
      obtain ⟨x5_1, ex5_1⟩ : ∃ y : Int32, y = x5 + (1 : Int32) := ⟨_, rfl⟩
      refine lv_iinc (v := x5_1) (lv' := [(5, .int x5_1), (0, .ref (ad 20)), (2, .long x2), (4, .int x4), (6, .int x6)]) hx hb dX1_findLeading_115 hl (k := 3) rfl (by rw [ex5_1]; rfl) (by decide) rfl (fun ls hl => ?_)
      have h := h x5_1 ex5_1
      refine lv_goto (tgt := 21) hx hb dX1_findLeading_118 (by decide) ?_
      replace hl := lv_sub hl [1, 2, 3, 0] rfl
      exact hK21 x2 x4 x5_1 S46 _ _ _ h hw hl
    · have h := h.2 c49
      refine lv_aload_n hx hb dX1_findLeading_52 rfl (lv_at hl 0 rfl) ?_
      refine gf_X1_ways C0 hw dX1_findLeading_53 ?_
      refine lv_iload hx hb dX1_findLeading_56 (lv_at hl 4 rfl) ?_
      refine clVI (As := [.int x6]) (rest := []) (ci := 4) (k := 14) C0 (m_X5_fromTheEnd l D ad cI cJ cZ S46 x6 _ h) cal_X5_fromTheEnd kw_205 kw_204 kw_242 rfl rfl rfl rfl hl.1 rfl (Nat.le_of_ble_eq_true rfl) ⟨Nat.le_of_ble_eq_true rfl, Nat.le_of_ble_eq_true rfl⟩ rfl rfl dX1_findLeading_58 hw (fun r58 S58 H locs h hw => ?_)
      replace h := h
      refine lv_istore (lv' := [(7, .int r58), (0, .ref (ad 20)), (2, .long x2), (4, .int x4), (5, .int x5), (6, .int x6)]) hx hb dX1_findLeading_61 hl (by decide) rfl (fun ls hl => ?_)
      refine lv_aload_n hx hb dX1_findLeading_63 rfl (lv_at hl 1 rfl) ?_
      refine gf_X1_leading C0 hw dX1_findLeading_64 ?_
      refine lv_iload hx hb dX1_findLeading_67 (lv_at hl 0 rfl) ?_
      refine ld_C_leading C0 hw h.1 dX1_findLeading_69 ?_
      have h := h.2
      refine lv_if_ne (tgt := 109) hx hb dX1_findLeading_70 (by decide) (fun c70 => ?_) (fun c70 => ?_)
      · have h := h.1 c70
        replace hl := lv_sub hl [1, 2, 3, 4, 5] rfl
        exact mb_X1_findLeading_109 C0 _ ih x2 x4 x5 x6 S58 _ _ ls h hw hl
      · have h := h.2 c70
        refine lv_aload_n hx hb dX1_findLeading_73 rfl (lv_at hl 1 rfl) ?_
        refine gf_X1_acts C0 hw dX1_findLeading_74 ?_
        refine lv_iload hx hb dX1_findLeading_77 (lv_at hl 0 rfl) ?_
        refine clVL (As := [.int r58]) (rest := []) (ci := 0) (k := 4) C0 (m_X0_givenAt l D ad cI cJ cZ S58 r58 _ h) cal_X0_givenAt kw_133 kw_132 kw_131 rfl rfl rfl rfl hl.1 rfl (Nat.le_of_ble_eq_true rfl) ⟨Nat.le_of_ble_eq_true rfl, Nat.le_of_ble_eq_true rfl⟩ rfl rfl dX1_findLeading_79 hw (fun r79 S79 H locs h hw => ?_)
        replace h := h
        refine lv_lload_n hx hb dX1_findLeading_82 rfl (lv_at hl 2 rfl) ?_
        refine lv_land hx hb dX1_findLeading_83 ?_
        refine lv_lconst (v := 0) hx hb dX1_findLeading_84 (by decide) ?_
        refine W.lcmp hx hb dX1_findLeading_85 ?_
        refine lv_if_ne (tgt := 109) hx hb dX1_findLeading_86 (by decide) (fun c86 => ?_) (fun c86 => ?_)
        · have h := h.1 c86
          replace hl := lv_sub hl [1, 2, 3, 4, 5] rfl
          exact mb_X1_findLeading_109 C0 _ ih x2 x4 x5 x6 S79 _ _ ls h hw hl
        · have h := h.2 c86
          refine lv_aload_n hx hb dX1_findLeading_89 rfl (lv_at hl 1 rfl) ?_
          refine lv_iload hx hb dX1_findLeading_90 (lv_at hl 0 rfl) ?_
          refine clVI (As := [.int r58]) (rest := []) (ci := 1) (k := 20) C0 (m_X1_leadsOn l D ad cI cJ cZ S79 r58 _ h) cal_X1_leadsOn kw_240 kw_239 kw_238 rfl rfl rfl rfl hl.1 rfl (Nat.le_of_ble_eq_true rfl) ⟨Nat.le_of_ble_eq_true rfl, Nat.le_of_ble_eq_true rfl⟩ rfl rfl dX1_findLeading_92 hw (fun r92 S92 H locs h hw => ?_)
          replace h := h
          refine lv_if_eq (tgt := 109) hx hb dX1_findLeading_95 (by decide) (fun c95 => ?_) (fun c95 => ?_)
          · have h := h.1 c95
            replace hl := lv_sub hl [1, 2, 3, 4, 5] rfl
            exact mb_X1_findLeading_109 C0 _ ih x2 x4 x5 x6 S92 _ _ ls h hw hl
          · have h := h.2 c95
            refine lv_aload_n hx hb dX1_findLeading_98 rfl (lv_at hl 1 rfl) ?_
            refine gf_X1_leading C0 hw dX1_findLeading_99 ?_
            refine lv_iload hx hb dX1_findLeading_102 (lv_at hl 0 rfl) ?_
            refine lv_iconst (v := 1) hx hb dX1_findLeading_104 (by decide) ?_
            refine st_C_leading C0 hw h.1 dX1_findLeading_105 (fun H locs hw => ?_)
            have h := h.2
            obtain ⟨S_2, eS_2⟩ : ∃ z, z = sC_leading S92 (upd (gC_leading S92) (r58).toNatClampNeg (1 : Int32)) := ⟨_, rfl⟩
            rw [← eS_2] at hw
            have h := h S_2 eS_2
            refine lv_iconst (v := 1) hx hb dX1_findLeading_106 (by decide) ?_
            refine lv_istore (lv' := [(4, .int (1 : Int32)), (7, .int r58), (0, .ref (ad 20)), (2, .long x2), (5, .int x5), (6, .int x6)]) hx hb dX1_findLeading_107 hl (by decide) rfl (fun ls hl => ?_)
            replace hl := lv_sub hl [2, 3, 0, 4, 5] rfl
            exact mb_X1_findLeading_109 C0 _ ih x2 (1 : Int32) x5 x6 S_2 _ _ ls h hw hl
set_option maxHeartbeats 4000000 in
set_option maxRecDepth 100000 in
theorem mb_X1_findLeading_21 {p : Program} {l : Launch} {e : Env} {s : State} {m : MethodId} {args : Array Value} {below : List Frame} {meth : Method} {c : Code} {D : va_G} {ad : Nat → Nat} {cI cJ cZ : ClassId} {A : Nat → Prop} {post : CS → Prop} (C0 : Cx p s m args meth c cX1_findLeading 8 RX1 none D cI cJ cZ A) :
 ∀ (n : Nat) (x2 : Int64) (x4 : Int32) (x5 : Int32) (S : CS) (H : Heap) (locs : List Loc) (ls : Array Slot), wp_X1_findLeading_21 post n x2 x4 x5 S → Wd (WC ad cI cJ cZ) D A s.heap H locs S → lv_has ls 8 [(0, .ref (ad 20)), (2, .long x2), (4, .int x4), (5, .int x5)] → W p l e rm_X1_findLeading s m args below meth c H locs 0 0 (QV (WC ad cI cJ cZ) D A s args below post) (F0 m 21 ls []) := by
  have hx := C0.1
  have hb := C0.2.1
  intro n
  induction n with
  | zero => intro x2 x4 x5 S H locs ls h; exact h.elim
  | succ n ih =>
    intro x2 x4 x5 S H locs ls h hw hl
    replace h : ws_X1_findLeading_21 (wp_X1_findLeading_21  post n)  post x2 x4 x5 S := h
    unfold ws_X1_findLeading_21 at h
    refine lv_iload hx hb dX1_findLeading_21 (lv_at hl 3 rfl) ?_
    refine lv_sipush (v := 150) hx hb dX1_findLeading_23 (by decide) ?_
    refine lv_icmp_ge (tgt := 121) hx hb dX1_findLeading_26 (by decide) (fun c26 => ?_) (fun c26 => ?_)
    · have h := h.1 c26
      exact rtV C0 hw h dX1_findLeading_121
    · have h := h.2 c26
      refine lv_iload hx hb dX1_findLeading_29 (lv_at hl 2 rfl) ?_
      refine lv_if_eq (tgt := 121) hx hb dX1_findLeading_31 (by decide) (fun c31 => ?_) (fun c31 => ?_)
      · have h := h.1 c31
        exact rtV C0 hw h dX1_findLeading_121
      · have h := h.2 c31
        refine lv_iconst (v := 0) hx hb dX1_findLeading_34 (by decide) ?_
        refine lv_istore (lv' := [(4, .int (0 : Int32)), (0, .ref (ad 20)), (2, .long x2), (5, .int x5)]) hx hb dX1_findLeading_35 hl (by decide) rfl (fun ls hl => ?_)
        refine lv_iconst (v := 0) hx hb dX1_findLeading_37 (by decide) ?_
        refine lv_istore (lv' := [(6, .int (0 : Int32)), (4, .int (0 : Int32)), (0, .ref (ad 20)), (2, .long x2), (5, .int x5)]) hx hb dX1_findLeading_38 hl (by decide) rfl (fun ls hl => ?_)
        replace hl := lv_sub hl [2, 3, 1, 4, 0] rfl
        obtain ⟨n, h⟩ := h
        exact mb_X1_findLeading_40 C0 _ ih n x2 (0 : Int32) x5 (0 : Int32) S _ _ ls h hw hl
set_option maxHeartbeats 4000000 in
set_option maxRecDepth 100000 in
theorem m_X1_findLeading (l : Launch) (D : va_G) (ad : Nat → Nat) (cI cJ cZ : ClassId) (S : CS) (x1 : Int32) (x2 : Int64) (post : CS → Prop) (h : wp_X1_findLeading S x1 x2 post) : CV (WC ad cI cJ cZ) D cI cJ cZ l yX1_findLeading (.code yX1_findLeading cX1_findLeading 8 none :: gt) rm_X1_findLeading S [.ref (ad 20), .int x1, .long x2] post := by
  refine enV (by decide) (Nat.le_of_ble_eq_true rfl) ?_
  intro p e s m below meth c A ls C0 hw hl
  have C0 : Cx p s m _ meth c cX1_findLeading 8 RX1 none D cI cJ cZ A := C0
  have hl : lv_has ls 8 [(0, .ref (ad 20)), (1, .int x1), (2, .long x2)] := hl
  have hx := C0.1
  have hb := C0.2.1
  unfold wp_X1_findLeading at h
  refine lv_aload_n hx hb dX1_findLeading_0 rfl (lv_at hl 0 rfl) ?_
  refine gf_X1_leading C0 hw dX1_findLeading_1 ?_
  refine lv_iconst (v := 0) hx hb dX1_findLeading_4 (by decide) ?_
  refine fl_C_leading (index := 85) C0 kw_243 hl.1 rfl (Nat.le_of_ble_eq_true rfl) ⟨Nat.le_of_ble_eq_true rfl, Nat.le_of_ble_eq_true rfl⟩ dX1_findLeading_5 hw (fun H locs hw => ?_)
  obtain ⟨S_1, eS_1⟩ : ∃ z, z = sC_leading S (fl_I 150 (0 : Int32) (gC_leading S)) := ⟨_, rfl⟩
  rw [← eS_1] at hw
  have h := h S_1 eS_1
  refine lv_aload_n hx hb dX1_findLeading_8 rfl (lv_at hl 0 rfl) ?_
  refine gf_X1_leading C0 hw dX1_findLeading_9 ?_
  refine lv_iload_n hx hb dX1_findLeading_12 rfl (lv_at hl 1 rfl) ?_
  refine lv_iconst (v := 1) hx hb dX1_findLeading_13 (by decide) ?_
  refine st_C_leading C0 hw h.1 dX1_findLeading_14 (fun H locs hw => ?_)
  have h := h.2
  obtain ⟨S_2, eS_2⟩ : ∃ z, z = sC_leading S_1 (upd (gC_leading S_1) (x1).toNatClampNeg (1 : Int32)) := ⟨_, rfl⟩
  rw [← eS_2] at hw
  have h := h S_2 eS_2
  refine lv_iconst (v := 1) hx hb dX1_findLeading_15 (by decide) ?_
  refine lv_istore (lv' := [(4, .int (1 : Int32)), (0, .ref (ad 20)), (1, .int x1), (2, .long x2)]) hx hb dX1_findLeading_16 hl (by decide) rfl (fun ls hl => ?_)
  refine lv_iconst (v := 0) hx hb dX1_findLeading_18 (by decide) ?_
  refine lv_istore (lv' := [(5, .int (0 : Int32)), (4, .int (1 : Int32)), (0, .ref (ad 20)), (1, .int x1), (2, .long x2)]) hx hb dX1_findLeading_19 hl (by decide) rfl (fun ls hl => ?_)
  replace hl := lv_sub hl [2, 4, 1, 0] rfl
  obtain ⟨n, h⟩ := h
  exact mb_X1_findLeading_21 C0 n x2 (1 : Int32) (0 : Int32) S_2 _ _ ls h hw hl
abbrev rm_X1_leastTaker : Room := { frames := 3, cells := 0, slots := 0, locals := 71 }
set_option maxHeartbeats 4000000 in
set_option maxRecDepth 100000 in
theorem mb_X1_leastTaker_71 {p : Program} {l : Launch} {e : Env} {s : State} {m : MethodId} {args : Array Value} {below : List Frame} {meth : Method} {c : Code} {D : va_G} {ad : Nat → Nat} {cI cJ cZ : ClassId} {A : Nat → Prop} {post : Int32 → CS → Prop} (C0 : Cx p s m args meth c cX1_leastTaker 7 RX1 (some .int) D cI cJ cZ A) (K22 : Int64 → Int32 → CS → Prop) (hK22 : ∀ (x4 : Int64) (x6 : Int32) (S : CS) (H : Heap) (locs : List Loc) (ls : Array Slot), K22 x4 x6 S → Wd (WC ad cI cJ cZ) D A s.heap H locs S → lv_has ls 7 [(0, .ref (ad 20)), (4, .long x4), (6, .int x6)] → W p l e rm_X1_leastTaker s m args below meth c H locs 0 0 (QI (WC ad cI cJ cZ) D A s args below post) (F0 m 22 ls [])) :
 ∀ (x4 : Int64) (x6 : Int32) (S : CS) (H : Heap) (locs : List Loc) (ls : Array Slot), wp_X1_leastTaker_71 K22 post x4 x6 S → Wd (WC ad cI cJ cZ) D A s.heap H locs S → lv_has ls 7 [(0, .ref (ad 20)), (4, .long x4), (6, .int x6)] → W p l e rm_X1_leastTaker s m args below meth c H locs 0 0 (QI (WC ad cI cJ cZ) D A s args below post) (F0 m 71 ls []) := by
  have hx := C0.1
  have hb := C0.2.1
  intro x4 x6 S H locs ls h hw hl
  unfold wp_X1_leastTaker_71 at h
  obtain ⟨x6_1, ex6_1⟩ : ∃ y : Int32, y = x6 + (1 : Int32) := ⟨_, rfl⟩
  refine lv_iinc (v := x6_1) (lv' := [(6, .int x6_1), (0, .ref (ad 20)), (4, .long x4)]) hx hb dX1_leastTaker_71 hl (k := 2) rfl (by rw [ex6_1]; rfl) (by decide) rfl (fun ls hl => ?_)
  have h := h x6_1 ex6_1
  refine lv_goto (tgt := 22) hx hb dX1_leastTaker_74 (by decide) ?_
  replace hl := lv_sub hl [1, 2, 0] rfl
  exact hK22 x4 x6_1 S _ _ _ h hw hl
set_option maxHeartbeats 4000000 in
set_option maxRecDepth 100000 in
theorem mb_X1_leastTaker_22 {p : Program} {l : Launch} {e : Env} {s : State} {m : MethodId} {args : Array Value} {below : List Frame} {meth : Method} {c : Code} {D : va_G} {ad : Nat → Nat} {cI cJ cZ : ClassId} {A : Nat → Prop} {post : Int32 → CS → Prop} (C0 : Cx p s m args meth c cX1_leastTaker 7 RX1 (some .int) D cI cJ cZ A) :
 ∀ (n : Nat) (x4 : Int64) (x6 : Int32) (S : CS) (H : Heap) (locs : List Loc) (ls : Array Slot), wp_X1_leastTaker_22 post n x4 x6 S → Wd (WC ad cI cJ cZ) D A s.heap H locs S → lv_has ls 7 [(0, .ref (ad 20)), (4, .long x4), (6, .int x6)] → W p l e rm_X1_leastTaker s m args below meth c H locs 0 0 (QI (WC ad cI cJ cZ) D A s args below post) (F0 m 22 ls []) := by
  have hx := C0.1
  have hb := C0.2.1
  intro n
  induction n with
  | zero => intro x4 x6 S H locs ls h; exact h.elim
  | succ n ih =>
    intro x4 x6 S H locs ls h hw hl
    replace h : ws_X1_leastTaker_22 (wp_X1_leastTaker_22  post n)  post x4 x6 S := h
    unfold ws_X1_leastTaker_22 at h
    refine lv_iload hx hb dX1_leastTaker_22 (lv_at hl 2 rfl) ?_
    refine lv_sipush (v := 150) hx hb dX1_leastTaker_24 (by decide) ?_
    refine lv_icmp_ge (tgt := 77) hx hb dX1_leastTaker_27 (by decide) (fun c27 => ?_) (fun c27 => ?_)
    · have h := h.1 c27
      refine lv_iconst (v := -1) hx hb dX1_leastTaker_77 (by decide) ?_
      exact rtI C0 hw h dX1_leastTaker_78
    · have h := h.2 c27
      refine lv_aload_n hx hb dX1_leastTaker_30 rfl (lv_at hl 0 rfl) ?_
      refine gf_X1_ways C0 hw dX1_leastTaker_31 ?_
      refine lv_iload hx hb dX1_leastTaker_34 (lv_at hl 2 rfl) ?_
      refine clVI (As := [.int x6]) (rest := []) (ci := 4) (k := 14) C0 (m_X5_comeTo l D ad cI cJ cZ S x6 _ h) cal_X5_comeTo kw_147 kw_146 kw_145 rfl rfl rfl rfl hl.1 rfl (Nat.le_of_ble_eq_true rfl) ⟨Nat.le_of_ble_eq_true rfl, Nat.le_of_ble_eq_true rfl⟩ rfl rfl dX1_leastTaker_36 hw (fun r36 S36 H locs h hw => ?_)
      replace h := h
      refine lv_if_eq (tgt := 71) hx hb dX1_leastTaker_39 (by decide) (fun c39 => ?_) (fun c39 => ?_)
      · have h := h.1 c39
        replace hl := lv_sub hl [0, 1, 2] rfl
        exact mb_X1_leastTaker_71 C0 _ ih x4 x6 S36 _ _ ls h hw hl
      · have h := h.2 c39
        refine lv_aload_n hx hb dX1_leastTaker_42 rfl (lv_at hl 0 rfl) ?_
        refine gf_X1_acts C0 hw dX1_leastTaker_43 ?_
        refine lv_iload hx hb dX1_leastTaker_46 (lv_at hl 2 rfl) ?_
        refine clVL (As := [.int x6]) (rest := []) (ci := 0) (k := 4) C0 (m_X0_takenAt l D ad cI cJ cZ S36 x6 _ h) cal_X0_takenAt kw_130 kw_129 kw_128 rfl rfl rfl rfl hl.1 rfl (Nat.le_of_ble_eq_true rfl) ⟨Nat.le_of_ble_eq_true rfl, Nat.le_of_ble_eq_true rfl⟩ rfl rfl dX1_leastTaker_48 hw (fun r48 S48 H locs h hw => ?_)
        replace h := h
        refine lv_lload hx hb dX1_leastTaker_51 (lv_at hl 1 rfl) ?_
        refine lv_land hx hb dX1_leastTaker_53 ?_
        refine lv_lconst (v := 0) hx hb dX1_leastTaker_54 (by decide) ?_
        refine W.lcmp hx hb dX1_leastTaker_55 ?_
        refine lv_if_eq (tgt := 71) hx hb dX1_leastTaker_56 (by decide) (fun c56 => ?_) (fun c56 => ?_)
        · have h := h.1 c56
          replace hl := lv_sub hl [0, 1, 2] rfl
          exact mb_X1_leastTaker_71 C0 _ ih x4 x6 S48 _ _ ls h hw hl
        · have h := h.2 c56
          refine lv_aload_n hx hb dX1_leastTaker_59 rfl (lv_at hl 0 rfl) ?_
          refine lv_iload hx hb dX1_leastTaker_60 (lv_at hl 2 rfl) ?_
          refine clVI (As := [.int x6]) (rest := []) (ci := 1) (k := 20) C0 (m_X1_leadsOn l D ad cI cJ cZ S48 x6 _ h) cal_X1_leadsOn kw_240 kw_239 kw_238 rfl rfl rfl rfl hl.1 rfl (Nat.le_of_ble_eq_true rfl) ⟨Nat.le_of_ble_eq_true rfl, Nat.le_of_ble_eq_true rfl⟩ rfl rfl dX1_leastTaker_62 hw (fun r62 S62 H locs h hw => ?_)
          replace h := h
          refine lv_if_eq (tgt := 71) hx hb dX1_leastTaker_65 (by decide) (fun c65 => ?_) (fun c65 => ?_)
          · have h := h.1 c65
            replace hl := lv_sub hl [0, 1, 2] rfl
            exact mb_X1_leastTaker_71 C0 _ ih x4 x6 S62 _ _ ls h hw hl
          · have h := h.2 c65
            refine lv_iload hx hb dX1_leastTaker_68 (lv_at hl 2 rfl) ?_
            exact rtI C0 hw h dX1_leastTaker_70
set_option maxHeartbeats 4000000 in
set_option maxRecDepth 100000 in
theorem m_X1_leastTaker (l : Launch) (D : va_G) (ad : Nat → Nat) (cI cJ cZ : ClassId) (S : CS) (x1 : Int32) (post : Int32 → CS → Prop) (h : wp_X1_leastTaker S x1 post) : CI (WC ad cI cJ cZ) D cI cJ cZ l yX1_leastTaker (.code yX1_leastTaker cX1_leastTaker 7 (some .int) :: gt) rm_X1_leastTaker S [.ref (ad 20), .int x1] post := by
  refine enI (by decide) (Nat.le_of_ble_eq_true rfl) ?_
  intro p e s m below meth c A ls C0 hw hl
  have C0 : Cx p s m _ meth c cX1_leastTaker 7 RX1 (some .int) D cI cJ cZ A := C0
  have hl : lv_has ls 7 [(0, .ref (ad 20)), (1, .int x1)] := hl
  have hx := C0.1
  have hb := C0.2.1
  unfold wp_X1_leastTaker at h
  refine lv_aload_n hx hb dX1_leastTaker_0 rfl (lv_at hl 0 rfl) ?_
  refine lv_iload_n hx hb dX1_leastTaker_1 rfl (lv_at hl 1 rfl) ?_
  refine clVL (As := [.int x1]) (rest := []) (ci := 1) (k := 20) C0 (m_X1_missing l D ad cI cJ cZ S x1 _ h) cal_X1_missing kw_153 kw_152 kw_241 rfl rfl rfl rfl hl.1 rfl (Nat.le_of_ble_eq_true rfl) ⟨Nat.le_of_ble_eq_true rfl, Nat.le_of_ble_eq_true rfl⟩ rfl rfl dX1_leastTaker_2 hw (fun r2 S2 H locs h hw => ?_)
  replace h := h
  refine lv_lstore_n (lv' := [(2, .long r2), (0, .ref (ad 20)), (1, .int x1)]) hx hb dX1_leastTaker_5 rfl hl (by decide) rfl (fun ls hl => ?_)
  refine lv_lload_n hx hb dX1_leastTaker_6 rfl (lv_at hl 0 rfl) ?_
  refine lv_lload_n hx hb dX1_leastTaker_7 rfl (lv_at hl 0 rfl) ?_
  refine lv_lneg hx hb dX1_leastTaker_8 ?_
  refine lv_land hx hb dX1_leastTaker_9 ?_
  refine lv_topl (fun x4_1 ex4_1 => ?_)
  have h := h x4_1 ex4_1
  refine lv_lstore (lv' := [(4, .long x4_1), (2, .long r2), (0, .ref (ad 20)), (1, .int x1)]) hx hb dX1_leastTaker_10 hl (by decide) rfl (fun ls hl => ?_)
  refine lv_aload_n hx hb dX1_leastTaker_12 rfl (lv_at hl 2 rfl) ?_
  refine lv_iload_n hx hb dX1_leastTaker_13 rfl (lv_at hl 3 rfl) ?_
  refine lv_lload hx hb dX1_leastTaker_14 (lv_at hl 0 rfl) ?_
  refine clVV (As := [.int x1, .long x4_1]) (rest := []) (ci := 1) (k := 20) C0 (m_X1_findLeading l D ad cI cJ cZ S2 x1 x4_1 _ h) cal_X1_findLeading kw_246 kw_245 kw_244 rfl rfl rfl rfl hl.1 rfl (Nat.le_of_ble_eq_true rfl) ⟨Nat.le_of_ble_eq_true rfl, Nat.le_of_ble_eq_true rfl⟩ rfl rfl dX1_leastTaker_16 hw (fun S16 H locs h hw => ?_)
  replace h := h
  refine lv_iconst (v := 0) hx hb dX1_leastTaker_19 (by decide) ?_
  refine lv_istore (lv' := [(6, .int (0 : Int32)), (4, .long x4_1), (2, .long r2), (0, .ref (ad 20)), (1, .int x1)]) hx hb dX1_leastTaker_20 hl (by decide) rfl (fun ls hl => ?_)
  replace hl := lv_sub hl [3, 1, 0] rfl
  obtain ⟨n, h⟩ := h
  exact mb_X1_leastTaker_22 C0 n x4_1 (0 : Int32) S16 _ _ ls h hw hl
abbrev rm_X1_state : Room := { frames := 0, cells := 0, slots := 0, locals := 0 }
set_option maxHeartbeats 4000000 in
set_option maxRecDepth 100000 in
theorem m_X1_state (l : Launch) (D : va_G) (ad : Nat → Nat) (cI cJ cZ : ClassId) (S : CS) (x1 : Int32) (x2 : Int64) (post : Int32 → CS → Prop) (h : wp_X1_state S x1 x2 post) : CI (WC ad cI cJ cZ) D cI cJ cZ l yX1_state (.code yX1_state cX1_state 4 (some .int) :: gt) rm_X1_state S [.ref (ad 20), .int x1, .long x2] post := by
  refine enI (by decide) (Nat.le_of_ble_eq_true rfl) ?_
  intro p e s m below meth c A ls C0 hw hl
  have C0 : Cx p s m _ meth c cX1_state 4 RX1 (some .int) D cI cJ cZ A := C0
  have hl : lv_has ls 4 [(0, .ref (ad 20)), (1, .int x1), (2, .long x2)] := hl
  have hx := C0.1
  have hb := C0.2.1
  unfold wp_X1_state at h
  refine lv_aload_n hx hb dX1_state_0 rfl (lv_at hl 0 rfl) ?_
  refine gf_X1_onAll C0 hw dX1_state_1 ?_
  refine lv_iload_n hx hb dX1_state_4 rfl (lv_at hl 1 rfl) ?_
  refine ld_C_onAll C0 hw h.1 dX1_state_5 ?_
  have h := h.2
  refine lv_lload_n hx hb dX1_state_6 rfl (lv_at hl 2 rfl) ?_
  refine lv_land hx hb dX1_state_7 ?_
  refine lv_lconst (v := 0) hx hb dX1_state_8 (by decide) ?_
  refine W.lcmp hx hb dX1_state_9 ?_
  refine lv_if_eq (tgt := 15) hx hb dX1_state_10 (by decide) (fun c10 => ?_) (fun c10 => ?_)
  · have h := h.1 c10
    refine lv_aload_n hx hb dX1_state_15 rfl (lv_at hl 0 rfl) ?_
    refine gf_X1_onSome C0 hw dX1_state_16 ?_
    refine lv_iload_n hx hb dX1_state_19 rfl (lv_at hl 1 rfl) ?_
    refine ld_C_onSome C0 hw h.1 dX1_state_20 ?_
    have h := h.2
    refine lv_lload_n hx hb dX1_state_21 rfl (lv_at hl 2 rfl) ?_
    refine lv_land hx hb dX1_state_22 ?_
    refine lv_lconst (v := 0) hx hb dX1_state_23 (by decide) ?_
    refine W.lcmp hx hb dX1_state_24 ?_
    refine lv_if_eq (tgt := 32) hx hb dX1_state_25 (by decide) (fun c25 => ?_) (fun c25 => ?_)
    · have h := h.1 c25
      refine lv_iconst (v := 0) hx hb dX1_state_32 (by decide) ?_
      exact rtI C0 hw h dX1_state_33
    · have h := h.2 c25
      refine lv_iconst (v := 2) hx hb dX1_state_28 (by decide) ?_
      refine lv_goto (tgt := 33) hx hb dX1_state_29 (by decide) ?_
      exact rtI C0 hw h dX1_state_33
  · have h := h.2 c10
    refine lv_iconst (v := 1) hx hb dX1_state_13 (by decide) ?_
    exact rtI C0 hw h dX1_state_14
abbrev rm_X2_isHeldBy : Room := { frames := 0, cells := 0, slots := 0, locals := 0 }
set_option maxHeartbeats 4000000 in
set_option maxRecDepth 100000 in
theorem m_X2_isHeldBy (l : Launch) (D : va_G) (ad : Nat → Nat) (cI cJ cZ : ClassId) (S : CS) (x1 : Int32) (x2 : Int32) (x3 : Int32) (post : Int32 → CS → Prop) (h : wp_X2_isHeldBy S x1 x2 x3 post) : CI (WC ad cI cJ cZ) D cI cJ cZ l yX2_isHeldBy (.code yX2_isHeldBy cX2_isHeldBy 4 (some .boolean) :: gt) rm_X2_isHeldBy S [.ref (ad 24), .int x1, .int x2, .int x3] post := by
  refine enI (by decide) (Nat.le_of_ble_eq_true rfl) ?_
  intro p e s m below meth c A ls C0 hw hl
  have C0 : Cx p s m _ meth c cX2_isHeldBy 4 RX2 (some .boolean) D cI cJ cZ A := C0
  have hl : lv_has ls 4 [(0, .ref (ad 24)), (1, .int x1), (2, .int x2), (3, .int x3)] := hl
  have hx := C0.1
  have hb := C0.2.1
  unfold wp_X2_isHeldBy at h
  refine lv_aload_n hx hb dX2_isHeldBy_0 rfl (lv_at hl 0 rfl) ?_
  refine gf_X2_holdings C0 hw dX2_isHeldBy_1 ?_
  refine lv_iload_n hx hb dX2_isHeldBy_4 rfl (lv_at hl 1 rfl) ?_
  refine lv_bipush (v := 16) hx hb dX2_isHeldBy_5 (by decide) ?_
  refine lv_imul hx hb dX2_isHeldBy_7 ?_
  refine lv_iload_n hx hb dX2_isHeldBy_8 rfl (lv_at hl 2 rfl) ?_
  refine lv_iadd hx hb dX2_isHeldBy_9 ?_
  refine ld_C_holdings C0 hw h.1 dX2_isHeldBy_10 ?_
  have h := h.2
  refine lv_aload_n hx hb dX2_isHeldBy_11 rfl (lv_at hl 0 rfl) ?_
  refine gf_X2_bits C0 hw dX2_isHeldBy_12 ?_
  refine lv_iload_n hx hb dX2_isHeldBy_15 rfl (lv_at hl 3 rfl) ?_
  refine ld_C_bits C0 hw h.1 dX2_isHeldBy_16 ?_
  have h := h.2
  refine lv_land hx hb dX2_isHeldBy_17 ?_
  refine lv_lconst (v := 0) hx hb dX2_isHeldBy_18 (by decide) ?_
  refine W.lcmp hx hb dX2_isHeldBy_19 ?_
  refine lv_if_eq (tgt := 27) hx hb dX2_isHeldBy_20 (by decide) (fun c20 => ?_) (fun c20 => ?_)
  · have h := h.1 c20
    refine lv_iconst (v := 0) hx hb dX2_isHeldBy_27 (by decide) ?_
    exact rtZ C0 hw rfl h dX2_isHeldBy_28
  · have h := h.2 c20
    refine lv_iconst (v := 1) hx hb dX2_isHeldBy_23 (by decide) ?_
    refine lv_goto (tgt := 28) hx hb dX2_isHeldBy_24 (by decide) ?_
    exact rtZ C0 hw rfl h dX2_isHeldBy_28
abbrev rm_X2_isUsedBehind : Room := { frames := 1, cells := 0, slots := 0, locals := 20 }
set_option maxHeartbeats 4000000 in
set_option maxRecDepth 100000 in
theorem m_X2_isUsedBehind (l : Launch) (D : va_G) (ad : Nat → Nat) (cI cJ cZ : ClassId) (S : CS) (x1 : Int32) (x2 : Int32) (post : Int32 → CS → Prop) (h : wp_X2_isUsedBehind S x1 x2 post) : CI (WC ad cI cJ cZ) D cI cJ cZ l yX2_isUsedBehind (.code yX2_isUsedBehind cX2_isUsedBehind 3 (some .boolean) :: gt) rm_X2_isUsedBehind S [.ref (ad 24), .int x1, .int x2] post := by
  refine enI (by decide) (Nat.le_of_ble_eq_true rfl) ?_
  intro p e s m below meth c A ls C0 hw hl
  have C0 : Cx p s m _ meth c cX2_isUsedBehind 3 RX2 (some .boolean) D cI cJ cZ A := C0
  have hl : lv_has ls 3 [(0, .ref (ad 24)), (1, .int x1), (2, .int x2)] := hl
  have hx := C0.1
  have hb := C0.2.1
  unfold wp_X2_isUsedBehind at h
  refine lv_aload_n hx hb dX2_isUsedBehind_0 rfl (lv_at hl 0 rfl) ?_
  refine gf_X2_usedLater C0 hw dX2_isUsedBehind_1 ?_
  refine lv_iload_n hx hb dX2_isUsedBehind_4 rfl (lv_at hl 1 rfl) ?_
  refine ld_C_usedL C0 hw h.1 dX2_isUsedBehind_5 ?_
  have h := h.2
  refine lv_iload_n hx hb dX2_isUsedBehind_6 rfl (lv_at hl 2 rfl) ?_
  refine clSI (As := [.int x2]) (rest := [.int (gC_usedL S (x1).toNatClampNeg)]) C0 (m_X2_variableBit l D ad cI cJ cZ S x2 _ h) cal_X2_variableBit kw_207 kw_206 rfl hl.1 rfl (Nat.le_of_ble_eq_true rfl) ⟨Nat.le_of_ble_eq_true rfl, Nat.le_of_ble_eq_true rfl⟩ rfl rfl dX2_isUsedBehind_7 hw (fun r7 S7 H locs h hw => ?_)
  replace h := h
  refine lv_iand hx hb dX2_isUsedBehind_10 ?_
  refine lv_if_eq (tgt := 18) hx hb dX2_isUsedBehind_11 (by decide) (fun c11 => ?_) (fun c11 => ?_)
  · have h := h.1 c11
    refine lv_iconst (v := 0) hx hb dX2_isUsedBehind_18 (by decide) ?_
    exact rtZ C0 hw rfl h dX2_isUsedBehind_19
  · have h := h.2 c11
    refine lv_iconst (v := 1) hx hb dX2_isUsedBehind_14 (by decide) ?_
    refine lv_goto (tgt := 19) hx hb dX2_isUsedBehind_15 (by decide) ?_
    exact rtZ C0 hw rfl h dX2_isUsedBehind_19
abbrev rm_X2_isInForce : Room := { frames := 2, cells := 0, slots := 0, locals := 46 }
set_option maxHeartbeats 4000000 in
set_option maxRecDepth 100000 in
theorem m_X2_isInForce (l : Launch) (D : va_G) (ad : Nat → Nat) (cI cJ cZ : ClassId) (S : CS) (x1 : Int32) (x2 : Int32) (post : Int32 → CS → Prop) (h : wp_X2_isInForce S x1 x2 post) : CI (WC ad cI cJ cZ) D cI cJ cZ l yX2_isInForce (.code yX2_isInForce cX2_isInForce 3 (some .boolean) :: gt) rm_X2_isInForce S [.ref (ad 24), .int x1, .int x2] post := by
  refine enI (by decide) (Nat.le_of_ble_eq_true rfl) ?_
  intro p e s m below meth c A ls C0 hw hl
  have C0 : Cx p s m _ meth c cX2_isInForce 3 RX2 (some .boolean) D cI cJ cZ A := C0
  have hl : lv_has ls 3 [(0, .ref (ad 24)), (1, .int x1), (2, .int x2)] := hl
  have hx := C0.1
  have hb := C0.2.1
  unfold wp_X2_isInForce at h
  refine lv_aload_n hx hb dX2_isInForce_0 rfl (lv_at hl 0 rfl) ?_
  refine lv_iload_n hx hb dX2_isInForce_1 rfl (lv_at hl 2 rfl) ?_
  refine clVL (As := [.int x2]) (rest := []) (ci := 2) (k := 24) C0 (m_X2_inForce l D ad cI cJ cZ S x2 _ h) cal_X2_inForce kw_228 kw_227 kw_226 rfl rfl rfl rfl hl.1 rfl (Nat.le_of_ble_eq_true rfl) ⟨Nat.le_of_ble_eq_true rfl, Nat.le_of_ble_eq_true rfl⟩ rfl rfl dX2_isInForce_2 hw (fun r2 S2 H locs h hw => ?_)
  replace h := h
  refine lv_aload_n hx hb dX2_isInForce_5 rfl (lv_at hl 0 rfl) ?_
  refine gf_X2_bits C0 hw dX2_isInForce_6 ?_
  refine lv_iload_n hx hb dX2_isInForce_9 rfl (lv_at hl 1 rfl) ?_
  refine ld_C_bits C0 hw h.1 dX2_isInForce_10 ?_
  have h := h.2
  refine lv_land hx hb dX2_isInForce_11 ?_
  refine lv_lconst (v := 0) hx hb dX2_isInForce_12 (by decide) ?_
  refine W.lcmp hx hb dX2_isInForce_13 ?_
  refine lv_if_eq (tgt := 21) hx hb dX2_isInForce_14 (by decide) (fun c14 => ?_) (fun c14 => ?_)
  · have h := h.1 c14
    refine lv_iconst (v := 0) hx hb dX2_isInForce_21 (by decide) ?_
    exact rtZ C0 hw rfl h dX2_isInForce_22
  · have h := h.2 c14
    refine lv_iconst (v := 1) hx hb dX2_isInForce_17 (by decide) ?_
    refine lv_goto (tgt := 22) hx hb dX2_isInForce_18 (by decide) ?_
    exact rtZ C0 hw rfl h dX2_isInForce_22
abbrev rm_X2_size : Room := { frames := 0, cells := 0, slots := 0, locals := 0 }
set_option maxHeartbeats 4000000 in
set_option maxRecDepth 100000 in
theorem m_X2_size (l : Launch) (D : va_G) (ad : Nat → Nat) (cI cJ cZ : ClassId) (S : CS)  (post : Int32 → CS → Prop) (h : wp_X2_size S  post) : CI (WC ad cI cJ cZ) D cI cJ cZ l yX2_size (.code yX2_size cX2_size 1 (some .int) :: gt) rm_X2_size S [.ref (ad 24)] post := by
  refine enI (by decide) (Nat.le_of_ble_eq_true rfl) ?_
  intro p e s m below meth c A ls C0 hw hl
  have C0 : Cx p s m _ meth c cX2_size 1 RX2 (some .int) D cI cJ cZ A := C0
  have hl : lv_has ls 1 [(0, .ref (ad 24))] := hl
  have hx := C0.1
  have hb := C0.2.1
  unfold wp_X2_size at h
  refine lv_aload_n hx hb dX2_size_0 rfl (lv_at hl 0 rfl) ?_
  refine gf_X2_made C0 hw dX2_size_1 ?_
  exact rtI C0 hw h dX2_size_4

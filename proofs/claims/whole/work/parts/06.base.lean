/-! words: every contract rests on one list -/
def gt : List Cond := lw_tbl.filter goodWord
theorem gt_m {w : Cond} (h : w ∈ lw_tbl) (g : goodWord w = true) : w ∈ gt := List.mem_filter.mpr ⟨h, g⟩
theorem gt_g {w : Cond} (h : w ∈ gt) : goodWord w = true := (List.mem_filter.mp h).2
theorem gt_l {w : Cond} (h : w ∈ gt) : w ∈ lw_tbl := (List.mem_filter.mp h).1
theorem good_big {big : List Cond} (hs : ∀ w ∈ gt, w ∈ big) {c2 : Cond} (h : c2 ∈ gt) : GoodIn big (c2 :: gt) := fun w hw => by
  rcases List.mem_cons.mp hw with rfl | hw
  · exact ⟨hs _ h, good_of_word (gt_g h)⟩
  · exact ⟨hs _ hw, good_of_word (gt_g hw)⟩
theorem good_V {big : List Cond} (hs : ∀ w ∈ gt, w ∈ big) {own C : String} {idx : Nat} {y : MethodName} {c2 : Cond} (h1 : Cond.methodLink own idx y ∈ gt) (h2 : Cond.instanceMethod y ∈ gt) (h3 : Cond.selects C y y ∈ gt) (h4 : Cond.initialized C ∈ gt) (h : c2 ∈ gt) : GoodIn big (wsV own idx C y (c2 :: gt)) := fun w hw => by
  rcases List.mem_append.mp hw with hw | hw
  · rcases List.mem_cons.mp hw with rfl | hw
    · exact ⟨hs _ h1, good_of_word (gt_g h1)⟩
    rcases List.mem_cons.mp hw with rfl | hw
    · exact ⟨hs _ h2, good_of_word (gt_g h2)⟩
    rcases List.mem_cons.mp hw with rfl | hw
    · exact ⟨hs _ h3, good_of_word (gt_g h3)⟩
    rcases List.mem_cons.mp hw with rfl | hw
    · exact ⟨hs _ h4, good_of_word (gt_g h4)⟩
    exact absurd hw List.not_mem_nil
  · exact good_big hs h w hw
/-! what holds of the machine's tables all the way -/
def Kn (D : va_G) (cI cJ cZ : ClassId) (U : State) : Prop := va_K D vwCl [(cI, .int), (cJ, .long), (cZ, .boolean)] U ∧ va_Nw (.methodLinkNest RX4 54 yX6_leafBit "LoanWays") U ∧ va_Nw (.methodLinkNest RX0 54 yX6_answer "LoanWays") U ∧ va_Nw (.methodLinkNest RX6 11 yX4_init "LoanWays") U ∧ va_Nw (.methodLinkNest RX6 27 yX5_init "LoanWays") U
theorem Kn.warm {D : va_G} {cI cJ cZ : ClassId} {s U : State} (h : Kn D cI cJ cZ s) (hW : s.WarmedH U.vm) : Kn D cI cJ cZ U := ⟨va_K.moved hW.alike h.1, va_Nw.warmM hW h.2.1, va_Nw.warmM hW h.2.2.1, va_Nw.warmM hW h.2.2.2.1, va_Nw.warmM hW h.2.2.2.2⟩
theorem Kn.calling {D : va_G} {cI cJ cZ : ClassId} {U : State} {g : JFrame} {mk : MethodId} {a : Array Value} (h : Kn D cI cJ cZ U) : Kn D cI cJ cZ (U.calling g mk a) := ⟨va_K.moved (u := U) (U := U.calling g mk a) (Vm.Alike.refl U.vm) h.1, va_tabs rfl (rfl : U.vm = (U.calling g mk a).vm) h.2.1, va_tabs rfl (rfl : U.vm = (U.calling g mk a).vm) h.2.2.1, va_tabs rfl (rfl : U.vm = (U.calling g mk a).vm) h.2.2.2.1, va_tabs rfl (rfl : U.vm = (U.calling g mk a).vm) h.2.2.2.2⟩
def Wd {σ : Type} (WF : σ → va_W) (D : va_G) (A : Nat → Prop) (H0 H : Heap) (locs : List Loc) (S : σ) : Prop := va_P D vwCl (WF S) H ∧ va_D A (WF S) ∧ va_S A H0 H locs
theorem free_all {A0 : Nat → Prop} {ws : va_W} {H0 H : Heap} {locs : List Loc} (hD : va_D A0 ws) (hS : va_S A0 H0 H locs) (hA : ∀ q, H0.size ≤ q → A0 q) : ∀ q, va_A ws H.size q → A0 q := fun q h => by
  rcases h with ⟨k, e, hk⟩ | h
  · exact hD.2 k _ hk
  · exact hA q (Nat.le_trans hS.1 h)
/-! contracts over a whole world -/
def PreW {σ : Type} (WF : σ → va_W) (D : va_G) (cI cJ cZ : ClassId) (S : σ) (av : List Value) (sz : Nat) : Array Value → State → Prop := va_Pc av (fun U => U.heap.size = sz ∧ va_P D vwCl (WF S) U.heap ∧ Kn D cI cJ cZ U ∧ va_D (fun _ => True) (WF S))
theorem PreW.blind {σ : Type} {WF : σ → va_W} {D : va_G} {cI cJ cZ : ClassId} {S : σ} {av : List Value} {sz : Nat} : FrameBlind (PreW WF D cI cJ cZ S av sz) := fun a U g mk q => by
  obtain ⟨q0, q1, qP, qK, qD⟩ := q
  exact ⟨q0, q1, qP, qK.calling, qD⟩
def CI {σ : Type} (WF : σ → va_W) (D : va_G) (cI cJ cZ : ClassId) (l : Launch) (y : MethodName) (ws : List Cond) (rm : Room) (S : σ) (av : List Value) (post : Int32 → σ → Prop) : Prop :=
  ∀ sz : Nat, Met l y ws rm (PreW WF D cI cJ cZ S av sz) (va_Qi post (fun S' t => va_P D vwCl (WF S') t.heap ∧ va_D (va_A (WF S) sz) (WF S')) (va_A (WF S) sz)) 0 0 (va_A (WF S) sz)
def CL {σ : Type} (WF : σ → va_W) (D : va_G) (cI cJ cZ : ClassId) (l : Launch) (y : MethodName) (ws : List Cond) (rm : Room) (S : σ) (av : List Value) (post : Int64 → σ → Prop) : Prop :=
  ∀ sz : Nat, Met l y ws rm (PreW WF D cI cJ cZ S av sz) (va_Ql post (fun S' t => va_P D vwCl (WF S') t.heap ∧ va_D (va_A (WF S) sz) (WF S')) (va_A (WF S) sz)) 0 0 (va_A (WF S) sz)
def CV {σ : Type} (WF : σ → va_W) (D : va_G) (cI cJ cZ : ClassId) (l : Launch) (y : MethodName) (ws : List Cond) (rm : Room) (S : σ) (av : List Value) (post : σ → Prop) : Prop :=
  ∀ sz : Nat, Met l y ws rm (PreW WF D cI cJ cZ S av sz) (va_Qv post (fun S' t => va_P D vwCl (WF S') t.heap ∧ va_D (va_A (WF S) sz) (WF S')) (va_A (WF S) sz)) 0 0 (va_A (WF S) sz)
/-! inside a method -/
def Cx (p : Program) (s : State) (m : MethodId) (args : Array Value) (meth : Method) (c : Code) (cc : ByteArray) (nL : Nat) (own : String) (ret : Option FieldType) (D : va_G) (cI cJ cZ : ClassId) (A : Nat → Prop) : Prop :=
  p.tables.exec = Jvm.exec ∧ c.code = cc ∧ meth.sig.returnType = ret ∧ c.maxLocals = nL ∧ s.vm.findClass own = some m.cls ∧ (∀ w ∈ gt, w.before args s = true) ∧ meth.locks = false ∧ Kn D cI cJ cZ s ∧ ∀ q : Nat, s.heap.size ≤ q → A q
def QI {σ : Type} (WF : σ → va_W) (D : va_G) (A : Nat → Prop) (s : State) (args : Array Value) (below : List Frame) (post : Int32 → σ → Prop) : State → Prop := MQ below (va_Qi post (fun S' t => va_P D vwCl (WF S') t.heap ∧ va_D A (WF S')) A) args s 0 0 A
def QL {σ : Type} (WF : σ → va_W) (D : va_G) (A : Nat → Prop) (s : State) (args : Array Value) (below : List Frame) (post : Int64 → σ → Prop) : State → Prop := MQ below (va_Ql post (fun S' t => va_P D vwCl (WF S') t.heap ∧ va_D A (WF S')) A) args s 0 0 A
def QV {σ : Type} (WF : σ → va_W) (D : va_G) (A : Nat → Prop) (s : State) (args : Array Value) (below : List Frame) (post : σ → Prop) : State → Prop := MQ below (va_Qv post (fun S' t => va_P D vwCl (WF S') t.heap ∧ va_D A (WF S')) A) args s 0 0 A
section EN
variable {σ : Type} {WF : σ → va_W} {D : va_G} {cI cJ cZ : ClassId} {l : Launch} {y : MethodName} {cc : ByteArray} {maxL : Nat} {ret : Option FieldType} {rm : Room} {S : σ} {av : List Value}
theorem enI {post : Int32 → σ → Prop} (hy : plainName y.cls = true) (hlen : (lg_sl av).length ≤ maxL)
    (body : ∀ (p : Program) (e : Env) (s : State) (m : MethodId) (below : List Frame) (meth : Method) (c : Code) (A : Nat → Prop) (ls : Array Slot), Cx p s m av.toArray meth c cc maxL y.cls ret D cI cJ cZ A → Wd WF D A s.heap s.heap [] S → lv_has ls maxL (lv_args 0 av) → W p l e rm s m av.toArray below meth c s.heap [] 0 0 (QI WF D A s av.toArray below post) (F0 m 0 ls [])) :
    CI WF D cI cJ cZ l y (.code y cc maxL ret :: gt) rm S av post := by
  intro sz
  refine Met.ofW (cc := cc) (maxL := maxL) (ret := ret) hy rfl ?_
  intro p e s m args below meth c s₁ B hml hv
  obtain ⟨rfl, hsz, hP, hK, hD0⟩ := hv
  subst hsz
  have hts := atoms_spec (ws := .code y cc maxL ret :: gt) B.pre
  have hown : s.vm.findClass y.cls = some m.cls := findClass_of_methodNamed B.named
  have hD := hD0.self (sz := s.heap.size)
  have hl := lv_entry av (n := maxL) hlen
  rw [lg_entry_eq]
  exact body p e s m below meth c (va_A (WF S) s.heap.size) _ ⟨B.exec, B.bytes, B.returns, hml, hown, fun w hw => hts w (List.mem_cons_of_mem _ hw), B.notSynchronized, hK, fun q h => Or.inr h⟩ ⟨hP, hD, va_S.rf⟩ hl
theorem enL {post : Int64 → σ → Prop} (hy : plainName y.cls = true) (hlen : (lg_sl av).length ≤ maxL)
    (body : ∀ (p : Program) (e : Env) (s : State) (m : MethodId) (below : List Frame) (meth : Method) (c : Code) (A : Nat → Prop) (ls : Array Slot), Cx p s m av.toArray meth c cc maxL y.cls ret D cI cJ cZ A → Wd WF D A s.heap s.heap [] S → lv_has ls maxL (lv_args 0 av) → W p l e rm s m av.toArray below meth c s.heap [] 0 0 (QL WF D A s av.toArray below post) (F0 m 0 ls [])) :
    CL WF D cI cJ cZ l y (.code y cc maxL ret :: gt) rm S av post := by
  intro sz
  refine Met.ofW (cc := cc) (maxL := maxL) (ret := ret) hy rfl ?_
  intro p e s m args below meth c s₁ B hml hv
  obtain ⟨rfl, hsz, hP, hK, hD0⟩ := hv
  subst hsz
  have hts := atoms_spec (ws := .code y cc maxL ret :: gt) B.pre
  have hown : s.vm.findClass y.cls = some m.cls := findClass_of_methodNamed B.named
  have hD := hD0.self (sz := s.heap.size)
  have hl := lv_entry av (n := maxL) hlen
  rw [lg_entry_eq]
  exact body p e s m below meth c (va_A (WF S) s.heap.size) _ ⟨B.exec, B.bytes, B.returns, hml, hown, fun w hw => hts w (List.mem_cons_of_mem _ hw), B.notSynchronized, hK, fun q h => Or.inr h⟩ ⟨hP, hD, va_S.rf⟩ hl
theorem enV {post : σ → Prop} (hy : plainName y.cls = true) (hlen : (lg_sl av).length ≤ maxL)
    (body : ∀ (p : Program) (e : Env) (s : State) (m : MethodId) (below : List Frame) (meth : Method) (c : Code) (A : Nat → Prop) (ls : Array Slot), Cx p s m av.toArray meth c cc maxL y.cls ret D cI cJ cZ A → Wd WF D A s.heap s.heap [] S → lv_has ls maxL (lv_args 0 av) → W p l e rm s m av.toArray below meth c s.heap [] 0 0 (QV WF D A s av.toArray below post) (F0 m 0 ls [])) :
    CV WF D cI cJ cZ l y (.code y cc maxL ret :: gt) rm S av post := by
  intro sz
  refine Met.ofW (cc := cc) (maxL := maxL) (ret := ret) hy rfl ?_
  intro p e s m args below meth c s₁ B hml hv
  obtain ⟨rfl, hsz, hP, hK, hD0⟩ := hv
  subst hsz
  have hts := atoms_spec (ws := .code y cc maxL ret :: gt) B.pre
  have hown : s.vm.findClass y.cls = some m.cls := findClass_of_methodNamed B.named
  have hD := hD0.self (sz := s.heap.size)
  have hl := lv_entry av (n := maxL) hlen
  rw [lg_entry_eq]
  exact body p e s m below meth c (va_A (WF S) s.heap.size) _ ⟨B.exec, B.bytes, B.returns, hml, hown, fun w hw => hts w (List.mem_cons_of_mem _ hw), B.notSynchronized, hK, fun q h => Or.inr h⟩ ⟨hP, hD, va_S.rf⟩ hl
end EN
section RT
variable {p : Program} {l : Launch} {e : Env} {R : Room} {s : State} {m : MethodId} {args : Array Value} {below : List Frame} {meth : Method} {c : Code} {H : Heap} {locs : List Loc}
variable {σ : Type} {WF : σ → va_W} {D : va_G} {cI cJ cZ : ClassId} {cc : ByteArray} {nL : Nat} {own : String} {A : Nat → Prop} {pc : Nat} {ls : Array Slot} {S : σ}
theorem rtI {post : Int32 → σ → Prop} {v : Int32} (C0 : Cx p s m args meth c cc nL own (some .int) D cI cJ cZ A) (hw : Wd WF D A s.heap H locs S) (hp : post v S) (hdg : decode cc pc = .ok (.ireturn, 1)) : W p l e R s m args below meth c H locs 0 0 (QI WF D A s args below post) (F0 m pc ls [.int v]) :=
  W.iret C0.1 C0.2.1 C0.2.2.1 (fun t ht hW => ⟨⟨v, S, rfl, hp, by rw [ht]; exact hw.1, hw.2.1⟩, hw.2.2.F ht⟩) hw.2.2.2.2 hdg C0.2.2.2.2.2.2.1
theorem rtZ {post : Int32 → σ → Prop} {v : Int32} (C0 : Cx p s m args meth c cc nL own (some .boolean) D cI cJ cZ A) (hw : Wd WF D A s.heap H locs S) (hn : narrow .boolean (.int v) = .int v) (hp : post v S) (hdg : decode cc pc = .ok (.ireturn, 1)) : W p l e R s m args below meth c H locs 0 0 (QI WF D A s args below post) (F0 m pc ls [.int v]) :=
  W.zret C0.1 C0.2.1 C0.2.2.1 hn (fun t ht hW => ⟨⟨v, S, rfl, hp, by rw [ht]; exact hw.1, hw.2.1⟩, hw.2.2.F ht⟩) hw.2.2.2.2 hdg C0.2.2.2.2.2.2.1
theorem rtL {post : Int64 → σ → Prop} {v : Int64} (C0 : Cx p s m args meth c cc nL own (some .long) D cI cJ cZ A) (hw : Wd WF D A s.heap H locs S) (hp : post v S) (hdg : decode cc pc = .ok (.lreturn, 1)) : W p l e R s m args below meth c H locs 0 0 (QL WF D A s args below post) (F0 m pc ls [.long v]) :=
  W.lret C0.1 C0.2.1 C0.2.2.1 (fun t ht hW => ⟨⟨v, S, rfl, hp, by rw [ht]; exact hw.1, hw.2.1⟩, hw.2.2.F ht⟩) hw.2.2.2.2 hdg C0.2.2.2.2.2.2.1
theorem rtV {post : σ → Prop} (C0 : Cx p s m args meth c cc nL own none D cI cJ cZ A) (hw : Wd WF D A s.heap H locs S) (hp : post S) (hdg : decode cc pc = .ok (.return_, 1)) : W p l e R s m args below meth c H locs 0 0 (QV WF D A s args below post) (F0 m pc ls []) :=
  W.vret C0.1 C0.2.1 C0.2.2.1 (fun t ht hW => ⟨⟨S, rfl, hp, by rw [ht]; exact hw.1, hw.2.1⟩, hw.2.2.F ht⟩) hw.2.2.2.2 hdg C0.2.2.2.2.2.2.1
def isb (v : Int32) : Prop := v = 0 ∨ v = 1
theorem isb_n {v : Int32} (h : isb v) : narrow .boolean (.int v) = .int v := by
  rcases h with rfl | rfl <;> rfl
end RT
/-! calls inside one world -/
def Cal (y : MethodName) (cc2 : ByteArray) (maxL2 : Nat) (ret2 : Option FieldType) (n : Nat) : Prop := Cond.initialized y.cls ∈ gt ∧ Cond.code y cc2 maxL2 ret2 ∈ gt ∧ (y.cls ≠ "java/lang/invoke/MethodHandle" ∧ y.cls ≠ "java/lang/invoke/VarHandle" ∧ (parseMethodDescriptor y.desc).map (fun d => d.parameters.length) = some n)
section CLL
variable {p : Program} {l : Launch} {e : Env} {R : Room} {s : State} {m : MethodId} {args : Array Value} {below : List Frame} {meth : Method} {c : Code} {H : Heap} {locs : List Loc} {Q : State → Prop}
variable {σ : Type} {WF : σ → va_W} {D : va_G} {cI cJ cZ : ClassId} {cc : ByteArray} {nL : Nat} {own : String} {ret : Option FieldType} {A : Nat → Prop} {pc : Nat} {ls : Array Slot} {S : σ} {st : List Value}
variable {y : MethodName} {cc2 : ByteArray} {maxL2 n index ci k : Nat} {ret2 : Option FieldType} {rm2 : Room} {b : Nat} {As rest : List Value} {q : vw_C} {fs : List Value}
theorem clVI {post2 : Int32 → σ → Prop} (C0 : Cx p s m args meth c cc nL own ret D cI cJ cZ A) (hM : CI WF D cI cJ cZ l y (.code y cc2 maxL2 ret2 :: gt) rm2 S (.ref b :: As) post2) (hC : Cal y cc2 maxL2 ret2 n) (hi : Cond.instanceMethod y ∈ gt) (hsel : Cond.selects y.cls y y ∈ gt) (hlk : Cond.methodLink own index y ∈ gt) (hci : vwCl[ci]? = some q) (hq : q.1 = y.cls) (he : (WF S)[k]? = some (b, .inr (ci, fs))) (hn : As.length = n) (hls : ls.size = nL) (hst : st = As.reverse ++ .ref b :: rest) (hcat : (rest.map fun v => v.category).sum ≤ 8) (hR : rm2.frames + 1 ≤ R.frames ∧ 8 + (maxL2 + 11) + rm2.locals ≤ R.locals) (hrc : rm2.cells = 0) (hrs : rm2.slots = 0) (hdg : decode cc pc = .ok (.invokevirtual index, 3)) (hw : Wd WF D A s.heap H locs S)
    (kk : ∀ (r : Int32) (S' : σ) (H1 : Heap) (locs1 : List Loc), post2 r S' → Wd WF D A s.heap H1 locs1 S' → W p l e R s m args below meth c H1 locs1 0 0 Q (F0 m (pc + 3) ls (.int r :: rest))) : W p l e R s m args below meth c H locs 0 0 Q (F0 m pc ls st) := by
  obtain ⟨hx, hb, hr, hml, hown, hts, hlocks, hK, hA⟩ := C0
  obtain ⟨hP, hD, hS⟩ := hw
  have hF := free_all hD hS hA
  refine va_calli (va_runV (C := y.cls) (As := As) (rest := rest) ⟨hx, hb, hml, hown, hts⟩ (hM H.size) (cwV n hts (good_V (fun _ h => h) hlk hi hsel hC.1 hC.2.1) rfl hrc hrs ⟨rfl, hC.2.2⟩ hR) ⟨PreW.blind, (by rw [← hq]; exact va_recv hK.1 hP hci he), fun U hU hW => ⟨rfl, by rw [hU], by rw [hU]; exact hP, hK.warm hW, hD.weaken (fun _ _ _ _ => trivial)⟩⟩ rfl hn hls hst (lv_room hcat) hdg ⟨Nat.zero_le _, Nat.zero_le _⟩) hS (fun q _ h => hF q h) hF (fun r S' t H1 locs1 ht hvm hp hB hz1 hk1 hS1 => kk r S' H1 locs1 hp ⟨by rw [← ht]; exact hB.1, hB.2.weaken (fun _ _ _ h => hF _ h), hS1⟩)
theorem clSI {post2 : Int32 → σ → Prop} (C0 : Cx p s m args meth c cc nL own ret D cI cJ cZ A) (hM : CI WF D cI cJ cZ l y (.code y cc2 maxL2 ret2 :: gt) rm2 S As post2) (hC : Cal y cc2 maxL2 ret2 n) (hsta : Cond.static y ∈ gt) (hlk : Cond.methodLink own index y ∈ gt) (hn : As.length = n) (hls : ls.size = nL) (hst : st = As.reverse ++ rest) (hcat : (rest.map fun v => v.category).sum ≤ 8) (hR : rm2.frames + 1 ≤ R.frames ∧ 8 + (maxL2 + 11) + rm2.locals ≤ R.locals) (hrc : rm2.cells = 0) (hrs : rm2.slots = 0) (hdg : decode cc pc = .ok (.invokestatic index, 3)) (hw : Wd WF D A s.heap H locs S)
    (kk : ∀ (r : Int32) (S' : σ) (H1 : Heap) (locs1 : List Loc), post2 r S' → Wd WF D A s.heap H1 locs1 S' → W p l e R s m args below meth c H1 locs1 0 0 Q (F0 m (pc + 3) ls (.int r :: rest))) : W p l e R s m args below meth c H locs 0 0 Q (F0 m pc ls st) := by
  obtain ⟨hx, hb, hr, hml, hown, hts, hlocks, hK, hA⟩ := C0
  obtain ⟨hP, hD, hS⟩ := hw
  have hF := free_all hD hS hA
  refine va_calli (va_runS (As := As) (rest := rest) ⟨hx, hb, hml, hown, hts⟩ (hM H.size) ⟨callB_of n hts (good_big (fun _ h => h) hC.2.1) rfl hrc hrs (hts _ hC.1) (hts _ hlk) hC.2.2 hR, hts _ hsta⟩ ⟨PreW.blind, fun U hU hW => ⟨rfl, by rw [hU], by rw [hU]; exact hP, hK.warm hW, hD.weaken (fun _ _ _ _ => trivial)⟩⟩ rfl hn hls hst (lv_room hcat) hdg ⟨Nat.zero_le _, Nat.zero_le _⟩) hS (fun q _ h => hF q h) hF (fun r S' t H1 locs1 ht hvm hp hB hz1 hk1 hS1 => kk r S' H1 locs1 hp ⟨by rw [← ht]; exact hB.1, hB.2.weaken (fun _ _ _ h => hF _ h), hS1⟩)
theorem clNI {post2 : Int32 → σ → Prop} {host : String} (C0 : Cx p s m args meth c cc nL own ret D cI cJ cZ A) (hM : CI WF D cI cJ cZ l y (.code y cc2 maxL2 ret2 :: gt) rm2 S As post2) (hC : Cal y cc2 maxL2 ret2 n) (hsta : Cond.static y ∈ gt) (hlk : va_Nw (.methodLinkNest own index y host) s) (hn : As.length = n) (hls : ls.size = nL) (hst : st = As.reverse ++ rest) (hcat : (rest.map fun v => v.category).sum ≤ 8) (hR : rm2.frames + 1 ≤ R.frames ∧ 8 + (maxL2 + 11) + rm2.locals ≤ R.locals) (hrc : rm2.cells = 0) (hrs : rm2.slots = 0) (hdg : decode cc pc = .ok (.invokestatic index, 3)) (hw : Wd WF D A s.heap H locs S)
    (kk : ∀ (r : Int32) (S' : σ) (H1 : Heap) (locs1 : List Loc), post2 r S' → Wd WF D A s.heap H1 locs1 S' → W p l e R s m args below meth c H1 locs1 0 0 Q (F0 m (pc + 3) ls (.int r :: rest))) : W p l e R s m args below meth c H locs 0 0 Q (F0 m pc ls st) := by
  obtain ⟨hx, hb, hr, hml, hown, hts, hlocks, hK, hA⟩ := C0
  obtain ⟨hP, hD, hS⟩ := hw
  have hF := free_all hD hS hA
  refine va_calli (va_runSN (As := As) (rest := rest) ⟨hx, hb, hml, hown, hts⟩ (hM H.size) ⟨va_cnB n hts (good_big (fun _ h => h) hC.2.1) rfl hrc hrs hlk (hts _ hC.1) hC.2.2 hR, hts _ hsta, trivial⟩ ⟨PreW.blind, fun U hU hW => ⟨rfl, by rw [hU], by rw [hU]; exact hP, hK.warm hW, hD.weaken (fun _ _ _ _ => trivial)⟩⟩ rfl hn hls hst (lv_room hcat) hdg ⟨Nat.zero_le _, Nat.zero_le _⟩) hS (fun q _ h => hF q h) hF (fun r S' t H1 locs1 ht hvm hp hB hz1 hk1 hS1 => kk r S' H1 locs1 hp ⟨by rw [← ht]; exact hB.1, hB.2.weaken (fun _ _ _ h => hF _ h), hS1⟩)
theorem clVL {post2 : Int64 → σ → Prop} (C0 : Cx p s m args meth c cc nL own ret D cI cJ cZ A) (hM : CL WF D cI cJ cZ l y (.code y cc2 maxL2 ret2 :: gt) rm2 S (.ref b :: As) post2) (hC : Cal y cc2 maxL2 ret2 n) (hi : Cond.instanceMethod y ∈ gt) (hsel : Cond.selects y.cls y y ∈ gt) (hlk : Cond.methodLink own index y ∈ gt) (hci : vwCl[ci]? = some q) (hq : q.1 = y.cls) (he : (WF S)[k]? = some (b, .inr (ci, fs))) (hn : As.length = n) (hls : ls.size = nL) (hst : st = As.reverse ++ .ref b :: rest) (hcat : (rest.map fun v => v.category).sum ≤ 8) (hR : rm2.frames + 1 ≤ R.frames ∧ 8 + (maxL2 + 11) + rm2.locals ≤ R.locals) (hrc : rm2.cells = 0) (hrs : rm2.slots = 0) (hdg : decode cc pc = .ok (.invokevirtual index, 3)) (hw : Wd WF D A s.heap H locs S)
    (kk : ∀ (r : Int64) (S' : σ) (H1 : Heap) (locs1 : List Loc), post2 r S' → Wd WF D A s.heap H1 locs1 S' → W p l e R s m args below meth c H1 locs1 0 0 Q (F0 m (pc + 3) ls (.long r :: rest))) : W p l e R s m args below meth c H locs 0 0 Q (F0 m pc ls st) := by
  obtain ⟨hx, hb, hr, hml, hown, hts, hlocks, hK, hA⟩ := C0
  obtain ⟨hP, hD, hS⟩ := hw
  have hF := free_all hD hS hA
  refine va_calll (va_runV (C := y.cls) (As := As) (rest := rest) ⟨hx, hb, hml, hown, hts⟩ (hM H.size) (cwV n hts (good_V (fun _ h => h) hlk hi hsel hC.1 hC.2.1) rfl hrc hrs ⟨rfl, hC.2.2⟩ hR) ⟨PreW.blind, (by rw [← hq]; exact va_recv hK.1 hP hci he), fun U hU hW => ⟨rfl, by rw [hU], by rw [hU]; exact hP, hK.warm hW, hD.weaken (fun _ _ _ _ => trivial)⟩⟩ rfl hn hls hst (lv_room hcat) hdg ⟨Nat.zero_le _, Nat.zero_le _⟩) hS (fun q _ h => hF q h) hF (fun r S' t H1 locs1 ht hvm hp hB hz1 hk1 hS1 => kk r S' H1 locs1 hp ⟨by rw [← ht]; exact hB.1, hB.2.weaken (fun _ _ _ h => hF _ h), hS1⟩)
theorem clSL {post2 : Int64 → σ → Prop} (C0 : Cx p s m args meth c cc nL own ret D cI cJ cZ A) (hM : CL WF D cI cJ cZ l y (.code y cc2 maxL2 ret2 :: gt) rm2 S As post2) (hC : Cal y cc2 maxL2 ret2 n) (hsta : Cond.static y ∈ gt) (hlk : Cond.methodLink own index y ∈ gt) (hn : As.length = n) (hls : ls.size = nL) (hst : st = As.reverse ++ rest) (hcat : (rest.map fun v => v.category).sum ≤ 8) (hR : rm2.frames + 1 ≤ R.frames ∧ 8 + (maxL2 + 11) + rm2.locals ≤ R.locals) (hrc : rm2.cells = 0) (hrs : rm2.slots = 0) (hdg : decode cc pc = .ok (.invokestatic index, 3)) (hw : Wd WF D A s.heap H locs S)
    (kk : ∀ (r : Int64) (S' : σ) (H1 : Heap) (locs1 : List Loc), post2 r S' → Wd WF D A s.heap H1 locs1 S' → W p l e R s m args below meth c H1 locs1 0 0 Q (F0 m (pc + 3) ls (.long r :: rest))) : W p l e R s m args below meth c H locs 0 0 Q (F0 m pc ls st) := by
  obtain ⟨hx, hb, hr, hml, hown, hts, hlocks, hK, hA⟩ := C0
  obtain ⟨hP, hD, hS⟩ := hw
  have hF := free_all hD hS hA
  refine va_calll (va_runS (As := As) (rest := rest) ⟨hx, hb, hml, hown, hts⟩ (hM H.size) ⟨callB_of n hts (good_big (fun _ h => h) hC.2.1) rfl hrc hrs (hts _ hC.1) (hts _ hlk) hC.2.2 hR, hts _ hsta⟩ ⟨PreW.blind, fun U hU hW => ⟨rfl, by rw [hU], by rw [hU]; exact hP, hK.warm hW, hD.weaken (fun _ _ _ _ => trivial)⟩⟩ rfl hn hls hst (lv_room hcat) hdg ⟨Nat.zero_le _, Nat.zero_le _⟩) hS (fun q _ h => hF q h) hF (fun r S' t H1 locs1 ht hvm hp hB hz1 hk1 hS1 => kk r S' H1 locs1 hp ⟨by rw [← ht]; exact hB.1, hB.2.weaken (fun _ _ _ h => hF _ h), hS1⟩)
theorem clNL {post2 : Int64 → σ → Prop} {host : String} (C0 : Cx p s m args meth c cc nL own ret D cI cJ cZ A) (hM : CL WF D cI cJ cZ l y (.code y cc2 maxL2 ret2 :: gt) rm2 S As post2) (hC : Cal y cc2 maxL2 ret2 n) (hsta : Cond.static y ∈ gt) (hlk : va_Nw (.methodLinkNest own index y host) s) (hn : As.length = n) (hls : ls.size = nL) (hst : st = As.reverse ++ rest) (hcat : (rest.map fun v => v.category).sum ≤ 8) (hR : rm2.frames + 1 ≤ R.frames ∧ 8 + (maxL2 + 11) + rm2.locals ≤ R.locals) (hrc : rm2.cells = 0) (hrs : rm2.slots = 0) (hdg : decode cc pc = .ok (.invokestatic index, 3)) (hw : Wd WF D A s.heap H locs S)
    (kk : ∀ (r : Int64) (S' : σ) (H1 : Heap) (locs1 : List Loc), post2 r S' → Wd WF D A s.heap H1 locs1 S' → W p l e R s m args below meth c H1 locs1 0 0 Q (F0 m (pc + 3) ls (.long r :: rest))) : W p l e R s m args below meth c H locs 0 0 Q (F0 m pc ls st) := by
  obtain ⟨hx, hb, hr, hml, hown, hts, hlocks, hK, hA⟩ := C0
  obtain ⟨hP, hD, hS⟩ := hw
  have hF := free_all hD hS hA
  refine va_calll (va_runSN (As := As) (rest := rest) ⟨hx, hb, hml, hown, hts⟩ (hM H.size) ⟨va_cnB n hts (good_big (fun _ h => h) hC.2.1) rfl hrc hrs hlk (hts _ hC.1) hC.2.2 hR, hts _ hsta, trivial⟩ ⟨PreW.blind, fun U hU hW => ⟨rfl, by rw [hU], by rw [hU]; exact hP, hK.warm hW, hD.weaken (fun _ _ _ _ => trivial)⟩⟩ rfl hn hls hst (lv_room hcat) hdg ⟨Nat.zero_le _, Nat.zero_le _⟩) hS (fun q _ h => hF q h) hF (fun r S' t H1 locs1 ht hvm hp hB hz1 hk1 hS1 => kk r S' H1 locs1 hp ⟨by rw [← ht]; exact hB.1, hB.2.weaken (fun _ _ _ h => hF _ h), hS1⟩)
theorem clVV {post2 : σ → Prop} (C0 : Cx p s m args meth c cc nL own ret D cI cJ cZ A) (hM : CV WF D cI cJ cZ l y (.code y cc2 maxL2 ret2 :: gt) rm2 S (.ref b :: As) post2) (hC : Cal y cc2 maxL2 ret2 n) (hi : Cond.instanceMethod y ∈ gt) (hsel : Cond.selects y.cls y y ∈ gt) (hlk : Cond.methodLink own index y ∈ gt) (hci : vwCl[ci]? = some q) (hq : q.1 = y.cls) (he : (WF S)[k]? = some (b, .inr (ci, fs))) (hn : As.length = n) (hls : ls.size = nL) (hst : st = As.reverse ++ .ref b :: rest) (hcat : (rest.map fun v => v.category).sum ≤ 8) (hR : rm2.frames + 1 ≤ R.frames ∧ 8 + (maxL2 + 11) + rm2.locals ≤ R.locals) (hrc : rm2.cells = 0) (hrs : rm2.slots = 0) (hdg : decode cc pc = .ok (.invokevirtual index, 3)) (hw : Wd WF D A s.heap H locs S)
    (kk : ∀ (S' : σ) (H1 : Heap) (locs1 : List Loc), post2 S' → Wd WF D A s.heap H1 locs1 S' → W p l e R s m args below meth c H1 locs1 0 0 Q (F0 m (pc + 3) ls rest)) : W p l e R s m args below meth c H locs 0 0 Q (F0 m pc ls st) := by
  obtain ⟨hx, hb, hr, hml, hown, hts, hlocks, hK, hA⟩ := C0
  obtain ⟨hP, hD, hS⟩ := hw
  have hF := free_all hD hS hA
  refine va_callv (va_runV (C := y.cls) (As := As) (rest := rest) ⟨hx, hb, hml, hown, hts⟩ (hM H.size) (cwV n hts (good_V (fun _ h => h) hlk hi hsel hC.1 hC.2.1) rfl hrc hrs ⟨rfl, hC.2.2⟩ hR) ⟨PreW.blind, (by rw [← hq]; exact va_recv hK.1 hP hci he), fun U hU hW => ⟨rfl, by rw [hU], by rw [hU]; exact hP, hK.warm hW, hD.weaken (fun _ _ _ _ => trivial)⟩⟩ rfl hn hls hst (lv_room hcat) hdg ⟨Nat.zero_le _, Nat.zero_le _⟩) hS (fun q _ h => hF q h) hF (fun S' t H1 locs1 ht hvm hp hB hz1 hk1 hS1 => kk S' H1 locs1 hp ⟨by rw [← ht]; exact hB.1, hB.2.weaken (fun _ _ _ h => hF _ h), hS1⟩)
theorem clSV {post2 : σ → Prop} (C0 : Cx p s m args meth c cc nL own ret D cI cJ cZ A) (hM : CV WF D cI cJ cZ l y (.code y cc2 maxL2 ret2 :: gt) rm2 S As post2) (hC : Cal y cc2 maxL2 ret2 n) (hsta : Cond.static y ∈ gt) (hlk : Cond.methodLink own index y ∈ gt) (hn : As.length = n) (hls : ls.size = nL) (hst : st = As.reverse ++ rest) (hcat : (rest.map fun v => v.category).sum ≤ 8) (hR : rm2.frames + 1 ≤ R.frames ∧ 8 + (maxL2 + 11) + rm2.locals ≤ R.locals) (hrc : rm2.cells = 0) (hrs : rm2.slots = 0) (hdg : decode cc pc = .ok (.invokestatic index, 3)) (hw : Wd WF D A s.heap H locs S)
    (kk : ∀ (S' : σ) (H1 : Heap) (locs1 : List Loc), post2 S' → Wd WF D A s.heap H1 locs1 S' → W p l e R s m args below meth c H1 locs1 0 0 Q (F0 m (pc + 3) ls rest)) : W p l e R s m args below meth c H locs 0 0 Q (F0 m pc ls st) := by
  obtain ⟨hx, hb, hr, hml, hown, hts, hlocks, hK, hA⟩ := C0
  obtain ⟨hP, hD, hS⟩ := hw
  have hF := free_all hD hS hA
  refine va_callv (va_runS (As := As) (rest := rest) ⟨hx, hb, hml, hown, hts⟩ (hM H.size) ⟨callB_of n hts (good_big (fun _ h => h) hC.2.1) rfl hrc hrs (hts _ hC.1) (hts _ hlk) hC.2.2 hR, hts _ hsta⟩ ⟨PreW.blind, fun U hU hW => ⟨rfl, by rw [hU], by rw [hU]; exact hP, hK.warm hW, hD.weaken (fun _ _ _ _ => trivial)⟩⟩ rfl hn hls hst (lv_room hcat) hdg ⟨Nat.zero_le _, Nat.zero_le _⟩) hS (fun q _ h => hF q h) hF (fun S' t H1 locs1 ht hvm hp hB hz1 hk1 hS1 => kk S' H1 locs1 hp ⟨by rw [← ht]; exact hB.1, hB.2.weaken (fun _ _ _ h => hF _ h), hS1⟩)
theorem tbl_in {dflt lo hi : Int} {offs : Array Int} {len : Nat} {x v : Int32} {off : Int} {tgt : Nat} (hexec : p.tables.exec = Jvm.exec) (hb : c.code = cc) (hdg : decode cc pc = .ok (.tableswitch dflt lo hi offs, len)) (e1 : x = v) (h1 : ¬ v.toInt < lo) (h2 : ¬ hi < v.toInt) (ho : offs[(v.toInt - lo).toNat]? = some off) (ht : (pc : Int) + off = (tgt : Int)) (k : W p l e R s m args below meth c H locs 0 0 Q (F0 m tgt ls rest)) : W p l e R s m args below meth c H locs 0 0 Q (F0 m pc ls (.int x :: rest)) := by
  subst e1
  exact lv_tableIn hexec hb hdg h1 h2 ho ht k
end CLL

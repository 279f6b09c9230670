/-! A constructor of an exception that links by another index. -/
section en_vxk
variable {p : Program} {l : Launch} {e : Env} {R : Room} {s : State} {m₀ : MethodId} {args : Array Value} {below : List Frame} {meth : Method} {c : Code} {W : State} {locs : List Loc} {cells slots : Nat}
set_option maxHeartbeats 1000000 in
theorem en_ctorMadeX (X : Stand p l e R s m₀ args below meth c W locs cells slots) (hexec : p.tables.exec = Jvm.exec) (htr : e.platform.stackTraces = false) {own cls : String} {names : List String} {ic : Nat}
    {ix : Nat} {rx : ByteArray} (x0 : decode rx 0 = .ok (.aload_n 0, 1)) (x1 : decode rx 1 = .ok (.aload_n 1, 1)) (x2 : decode rx 2 = .ok (.invokespecial ix, 3)) (x5 : decode rx 5 = .ok (.return_, 1))
    (hown : s.vm.findClass own = some m₀.cls) (hcls : Bundle.fit cls = true) (hnames : ∀ n ∈ names, Bundle.fit n = true)
    (h : ∀ a ∈ Bundle.ownAtomsX own ic cls ix rx names, a.before args s = true)
    (hlocs : ∀ x ∈ locs, ∀ cell, s.heap[x.base]? = some cell → cell.vm.isStatics = false)
    {a : Addr} {cX : ClassId} {kX : Class} (hfoundX : s.vm.findClass cls = some cX) (hkX : s.vm.classes[cX]? = some kX) (hcell : W.heap[a]? = some (freshCell cX kX)) (hnew : s.heap.size ≤ a)
    {msg : Value} (hmsg : msg.isRef = true)
    {g : JFrame} (hg : g.method = m₀) (hsize : g.locals.size = c.maxLocals) {rest : List Value} (hstack : g.stack = msg :: .ref a :: .ref a :: rest)
    (hd6 : decode c.code g.pc = .ok (.invokespecial ic, 3))
    (hRframes : names.length + 3 < R.frames) (hRlocals : 2 * g.monitorRoom + ((Value.ref a :: rest).map fun v => v.category).sum + (13 * (names.length + 1) + 42) ≤ R.locals) :
    ∃ (V : State) (ce : Cell) (L : List Loc), Stand p l e R s m₀ args below meth c (V.setCell a ce) (locs ++ L) cells slots ∧ (∀ y ∈ L, y.base = a) ∧ a < V.heap.size ∧ ce.cls = cX ∧ ce.vm = .none ∧
      ∀ target, Steps p.tables e below ((V.setCell a ce).setTop { g with stack := .ref a :: rest, pc := g.pc + 3 }) target → Steps p.tables e below (W.setTop g) target := by
  have howns : e.platform.frameOwnsMonitors = true := by rw [X.admits.platform]
  have hfin : e.platform.finalization = false := by rw [X.admits.platform]
  have hpl : e.platform.magicAccessors = ({} : Platform).magicAccessors := by rw [X.admits.platform]
  have a' : ∀ x, x ∈ Bundle.ownAtomsX own ic cls ix rx names → x.holds args s none s [] = true := fun x hx => h x hx
  obtain ⟨T, Z0, L, -, Y⟩ := ThrowableC.of_atoms (args := args) howns hfin hpl (fun x hx => h x (by simp [Bundle.ownAtomsX, hx]))
  obtain ⟨Z, M, LZ, LM, hnZ⟩ := Init0T.ofS_atoms (args := args) hpl L Y (fun x hx => h x (by simp [Bundle.ownAtomsX, hx]))
  obtain ⟨P1, Ps, hlen, L1, hL, hP1m, hlink1, hlink⟩ := Bundle.chainSX (args := args) hpl hnZ x0 x1 x2 x5 names cls hcls hnames (fun x hx => h x (by simp [Bundle.ownAtomsX, hx]))
  have hfound : s.vm.findClass cls = some P1.m.cls := findClass_of_methodNamed hP1m
  cases Option.some.inj (hfoundX.symm.trans hfound)
  obtain ⟨c1, kX', hc1, hk, hord, -, -, hn6⟩ := Cond.instantiable_spec (a' (.instantiable cls 6) (by simp [Bundle.ownAtomsX]))
  cases Option.some.inj (hc1.symm.trans hfound)
  cases Option.some.inj (hkX.symm.trans hk)
  have hsel0 : selectMethod e.platform s.vm P1.m.cls T.fill0 = .method T.fill0 := by
    obtain ⟨c2, r2, m2, q1, q2, q3, q4, -⟩ := Cond.selects_spec (a' (.selects cls Bundle.tFill0 Bundle.tFill0) (by simp [Bundle.ownAtomsX]))
    cases Option.some.inj (q1.symm.trans hfound)
    cases Option.some.inj (q2.symm.trans (State.methodFound?_of_named Y.fill0 (by decide)))
    cases Option.some.inj (q3.symm.trans Y.fill0)
    rw [Launch.admits_selectMethod X.admits]; exact q4
  have hselF : selectMethod e.platform s.vm P1.m.cls T.fill = .method T.fill := by
    obtain ⟨c2, r2, m2, q1, q2, q3, q4, -⟩ := Cond.selects_spec (a' (.selects cls Bundle.tFill Bundle.tFill) (by simp [Bundle.ownAtomsX]))
    cases Option.some.inj (q1.symm.trans hfound)
    cases Option.some.inj (q2.symm.trans (State.methodFound?_of_named Y.fill (by decide)))
    cases Option.some.inj (q3.symm.trans Y.fill)
    rw [Launch.admits_selectMethod X.admits]; exact q4
  obtain ⟨cellS0, hcS0, hiss⟩ := Y.statics
  obtain ⟨u0, hu0⟩ := Cond.staticRefV Y.unassigned L.unassignedStatic L.statics hcS0 hiss (a' (.isRef (.static Bundle.tN "UNASSIGNED_STACK" Bundle.steD)) (by simp [Bundle.ownAtomsX]))
  obtain ⟨sen, hsen⟩ := Cond.staticRefV Y.sentinel L.sentinelStatic L.statics hcS0 hiss (a' (.isRef (.static Bundle.tN "SUPPRESSED_SENTINEL" Bundle.listD)) (by simp [Bundle.ownAtomsX]))
  obtain ⟨ci198, i198, fB, hk198, hg198, ha198, hsB, -, hnB, htB, hffB⟩ := Cond.ownField (t := .object "java/lang/Object") Y.found L.cls (by decide +kernel) (a' (.fieldLink Bundle.tN 198 Bundle.tN "backtrace" "Ljava/lang/Object;") (by simp [Bundle.ownAtomsX])) (a' (.lays Bundle.tN Bundle.tN "backtrace" "Ljava/lang/Object;") (by simp [Bundle.ownAtomsX])) e.platform hpl
  obtain ⟨cellS, hcS', heS, -, hkeep⟩ := X.same.2.2.2.2.2 T.aS cellS0 hcS0
  have hcellS : W.heap[T.aS]? = some cellS := hcS'
  have hout' : ∀ i, (⟨T.aS, i⟩ : Loc) ∉ locs := fun i hmem => by
    have := hlocs _ hmem cellS0 hcS0
    rw [hiss] at this; cases this
  have hknownS : cellS.vm ≠ .unknown := by
    rw [heS]; intro hu
    rw [show cellS0.vm = .unknown from hu] at hiss
    cases hiss
  have hneS : T.aS ≠ a := Nat.ne_of_lt (Nat.lt_of_lt_of_le (Array.getElem?_eq_some_iff.mp hcS0).1 hnew)
  obtain ⟨iM, hffM⟩ := Y.msg
  obtain ⟨tyC, dC, hdC, hdnC⟩ := Cond.laysAt hfound hk Y.cause (a' (.lays cls Bundle.tN "cause" "Ljava/lang/Throwable;") (by simp [Bundle.ownAtomsX]))
  obtain ⟨tyS, dS, hdS, hdnS⟩ := Cond.laysAt hfound hk Y.stack (a' (.lays cls Bundle.tN "stackTrace" Bundle.steD) (by simp [Bundle.ownAtomsX]))
  obtain ⟨tyP, dP, hdP, hdnP⟩ := Cond.laysAt hfound hk Y.supp (a' (.lays cls Bundle.tN "suppressedExceptions" Bundle.listD) (by simp [Bundle.ownAtomsX]))
  obtain ⟨tyM, dM, hdM, hdnM⟩ := Cond.laysAt hfound hk hffM (a' (.lays cls Bundle.tN "detailMessage" "Ljava/lang/String;") (by simp [Bundle.ownAtomsX]))
  obtain ⟨tyB, dB, hdB, hdnB⟩ := Cond.laysAt hfound hk hffB (a' (.lays cls Bundle.tN "backtrace" "Ljava/lang/Object;") (by simp [Bundle.ownAtomsX]))
  have bC := Cond.laysApart hdB hdC hdnB hdnC (by rw [hnB, Y.causeName]; decide)
  have bS := Cond.laysApart hdB hdS hdnB hdnS (by rw [hnB, Y.stackName]; decide)
  have bP := Cond.laysApart hdB hdP hdnB hdnP (by rw [hnB, Y.suppName]; decide)
  have hskip : SkipFacts T e.platform s (fun u => u) u0 ((preparedCellV T.toThrowableT (freshCell P1.m.cls kX) a u0 sen).withEntry W.cur) :=
    ⟨{ ci198 := ci198, i198 := i198, fBack := fB }, ⟨hk198, hg198, ha198, hsB⟩, by
      have := fresh_default (c := P1.m.cls) tyB
      rw [htB] at this
      simpa [preparedCellV, Cell.setSlot, Cell.withEntry, Array.getElem?_setIfInBounds, bC, bS, bP, bC.symm, bS.symm, bP.symm, defaultValue] using this, fun _ _ => rfl⟩
  obtain ⟨tm, methC, cdC, kC, vm₁, hnC, -, -, -, -, -, -, -, hW₁, st1⟩ := Steps.initColdS (tb := p.tables) (e := e) (below := below) (s := s) (U := W) X.here hexec X.warmed hpl hown (t := Bundle.initS cls) rfl rfl (Bundle.fit_spec hcls).2
    (a' (.methodLink own ic (Bundle.initS cls)) (by simp [Bundle.ownAtomsX])) (h (.instanceMethod (Bundle.initS cls)) (by cases names <;> simp [Bundle.ownAtomsX, Bundle.chainSAtomsX, Bundle.passSAtoms])) (bytes := rx) (maxL := 2) (h (.code (Bundle.initS cls) rx 2 none) (by cases names <;> simp [Bundle.ownAtomsX, Bundle.chainSAtomsX, Bundle.passSAtoms]))
    (f := g) hg (a := a) (msg := msg) (rest := .ref a :: rest) hstack hd6
  cases Option.some.inj (hnC.symm.trans hP1m)
  have X₁ := X.noted hW₁
  obtain ⟨vm₂, X₂, st2⟩ := X₁.ctorMessageOffV hexec (g := { g with stack := .ref a :: rest }) hg hsize T L Z LZ M LM (P1 :: Ps)
    (fun P hP => by rcases List.mem_cons.mp hP with rfl | hP; exact L1; exact hL P hP) ⟨hlink1, hlink⟩ (u0 := u0) (sen := sen) (self := a) hmsg (cell := freshCell P1.m.cls kX) (cellS := cellS)
    hcell (fun _ => by simp) (by simp) rfl rfl hsel0 hselF hcellS hneS hknownS (by rw [hkeep _ (hout' _)]; exact hu0) (by rw [hkeep _ (hout' _)]; exact hsen)
    (Takes.of_laid hk hord tyC (by rw [Y.causeType]; rfl)) (Takes.of_laid hk hord tyS (by rw [Y.stackType]; exact fits_refV_array _ u0)) (Takes.of_laid hk hord tyP (by rw [Y.suppType]; exact fits_refV_object _ sen))
    (Takes.of_laid hk hord tyM (by rw [Y.msgType]; exact fits_refV_object _ ⟨msg, hmsg⟩)) Y.objLocals hskip htr [] hd6
    (by simp only [List.length_cons, hlen]; omega) (by simp only [List.length_cons, hlen]; exact hRlocals)
  have hlt : a < ((W.setVm vm₁).setVm vm₂).heap.size := (Array.getElem?_eq_some_iff.mp hcell).1
  refine ⟨(W.setVm vm₁).setVm vm₂, _, _, X₂, fun y hy => ?_, hlt, rfl, rfl, fun target hwalk => st1 _ (fun acts => ?_)⟩
  · simp only [List.mem_cons, List.not_mem_nil, or_false] at hy
    rcases hy with rfl | rfl | rfl | rfl | rfl <;> rfl
  · rw [doInvoke_state]
    exact st2 _ hwalk
end en_vxk
section en_vxk2
variable {p : Program} {l : Launch} {e : Env} {R : Room} {s : State} {m : MethodId} {args : Array Value} {below : List Frame} {meth : Method} {c : Code} {H : Heap} {locs : List Loc} {cells slots : Nat} {Q : State → Prop}
variable {ls : Array Slot} {rest : List Value}
theorem vx_back9 {T S : State} {R' : Room} {k n : Nat} (X : Stand p l e R s m args below meth c T locs cells slots) (Y : Stand p l e R' ((T.setVm s.vm).setFrames (.invoking m args :: below)) m args below meth c T [] 0 0) (Z : Stand p l e R' ((T.setVm s.vm).setFrames (.invoking m args :: below)) m args below meth c S [] k n) :
    Stand p l e R s m args below meth c S locs (cells + k) (slots + n) := by
  have hW0 : s.WarmedH ((T.setVm s.vm).setFrames (.invoking m args :: below)).vm := State.WarmedH.refl s
  refine { admits := X.admits, cas := X.cas, clock := X.clock, frames := X.frames, room := X.room, hears := X.hears, method := X.method, code := X.code, here := Z.here, tail := Z.tail, warmed := State.WarmedH.trans hW0 Z.warmed, limits := Z.limits.trans (Y.limits.symm.trans X.limits), bytes := Z.bytes.trans (Y.bytes.symm.trans X.bytes), same := ?_ }
  obtain ⟨e1, e2⟩ := Z.same
  rw [State.setFrames_setFrames] at e1
  have h2 : (T.setVm s.vm).sameButNew (S.setVm s.vm) [] k n := ⟨e1, e2⟩
  have h3 := X.same.trans h2
  rw [List.append_nil] at h3
  exact h3
theorem vx_athrow {cc : ByteArray} {pc : Nat} (hexec : p.tables.exec = Jvm.exec) (hb : c.code = cc) {q : Addr} (hdg : decode cc pc = .ok (.athrow, 1)) (k : vx_W p l e R s m args below meth c H locs cells slots Q (F0 m pc ls rest) q) : W p l e R s m args below meth c H locs cells slots Q (F0 m pc ls (.ref q :: rest)) := by
  intro T hT X
  obtain ⟨t, st, hq⟩ := k T hT X
  refine ⟨t, ?_, hq⟩
  have hdg' : decode c.code pc = .ok (.athrow, 1) := by rw [hb]; exact hdg
  jvm_step X.here [X.here.top, hexec, hdg', athrow.wp_sem]
  exact st
theorem en_makeX {cc : ByteArray} {pc : Nat} (hexec : p.tables.exec = Jvm.exec) (hb : c.code = cc) (hl : l.stackTraces = false) {own cls text : String} {names : List String} {ik is ic sa : Nat} {A : Nat → Prop}
    {ix : Nat} {rx : ByteArray} (x0 : decode rx 0 = .ok (.aload_n 0, 1)) (x1 : decode rx 1 = .ok (.aload_n 1, 1)) (x2 : decode rx 2 = .ok (.invokespecial ix, 3)) (x5 : decode rx 5 = .ok (.return_, 1))
    (hown : s.vm.findClass own = some m.cls) (hcls : Bundle.fit cls = true) (hnames : ∀ n ∈ names, Bundle.fit n = true)
    (hk : (Cond.classLink own ik cls).before args s = true) (hini : (Cond.initialized cls).before args s = true) (hstr : vk_R own is text sa s) (hat : ∀ w ∈ (Bundle.ownAtomsX own ic cls ix rx names).filter vx_no, w.before args s = true)
    (hgood : ∀ w ∈ Cond.classLink own ik cls :: Cond.initialized cls :: (Bundle.ownAtomsX own ic cls ix rx names).filter vx_no, vx_ot w = true)
    (hU : vx_Zq Bundle.tN "UNASSIGNED_STACK" Bundle.steD A s s.heap) (hN : vx_Zq Bundle.tN "SUPPRESSED_SENTINEL" Bundle.listD A s s.heap) (hS : va_S A s.heap H locs) (hsize : ls.size = c.maxLocals)
    (d0 : decode cc pc = .ok (.new ik, 3)) (d3 : decode cc (pc + 3) = .ok (.dup, 1)) (d4 : decode cc (pc + 4) = .ok (.ldc is, 2)) (d6 : decode cc (pc + 6) = .ok (.invokespecial ic, 3))
    (hRframes : names.length + 3 < R.frames) (hRlocals : (rest.map fun v => v.category).sum + (13 * (names.length + 1) + 43) ≤ R.locals) (hRcells : cells + 1 ≤ R.cells) (hRslots : slots + 6 ≤ R.slots)
    (kk : ∀ (q : Nat) (H1 : Heap) (ce : Cell), H1[q]? = some ce → ce.vm = .none → s.vm.findClass cls = some ce.cls → H.size ≤ H1.size → (∀ z : Nat, z < H.size → H1[z]? = H[z]?) → va_S A s.heap H1 locs → W p l e R s m args below meth c H1 locs (cells + 1) (slots + 6) Q (F0 m (pc + 9) ls (.ref q :: rest))) :
    W p l e R s m args below meth c H locs cells slots Q (F0 m pc ls rest) := by
  intro T hT X
  subst hT
  have htr : e.platform.stackTraces = false := (show e.platform.stackTraces = l.stackTraces by rw [X.admits.platform]).trans hl
  have Y := vx_rebase X (R' := { frames := R.frames, locals := R.locals, cells := 1, slots := 6 }) (Nat.le_refl _) (Nat.le_refl _) hRcells hRslots
  obtain ⟨s', hA'⟩ : ∃ z, z = (T.setVm s.vm).setFrames (.invoking m args :: below) := ⟨_, rfl⟩
  rw [← hA'] at Y
  have hvm : s'.vm = s.vm := by rw [hA']; rfl
  have hhp : s'.heap = T.heap := by rw [hA']; rfl
  have hW0 : s.WarmedH s'.vm := by rw [hvm]; exact State.WarmedH.refl s
  have hat' : ∀ w ∈ (Bundle.ownAtomsX own ic cls ix rx names).filter vx_no, w.before args s' = true := fun w hw => vx_ot_at hW0 hvm.symm (hgood w (List.mem_cons_of_mem _ (List.mem_cons_of_mem _ hw))) (hat w hw)
  have hk' : (Cond.classLink own ik cls).before args s' = true := vx_ot_at hW0 hvm.symm (hgood _ List.mem_cons_self) hk
  have hini' : (Cond.initialized cls).before args s' = true := vx_ot_at hW0 hvm.symm (hgood _ (List.mem_cons_of_mem _ List.mem_cons_self)) hini
  have hU' : vx_Zq Bundle.tN "UNASSIGNED_STACK" Bundle.steD A s' s'.heap := by rw [hhp]; exact vx_Zq.moved hW0.alike (hU.kept hS.2.1)
  have hN' : vx_Zq Bundle.tN "SUPPRESSED_SENTINEL" Bundle.listD A s' s'.heap := by rw [hhp]; exact vx_Zq.moved hW0.alike (hN.kept hS.2.1)
  have h : ∀ w ∈ Bundle.ownAtomsX own ic cls ix rx names, w.before args s' = true := vx_own hat' (vx_isRefq hU'.1) (vx_isRefq hN'.1) hU'.2.word hN'.2.word
  have hown' : s'.vm.findClass own = some m.cls := by rw [hvm]; exact hown
  have hins : (Cond.instantiable cls 6).before args s' = true := h _ (by simp [Bundle.ownAtomsX])
  obtain ⟨vm₁, cX, kX, hfX, hkX, -, -, X₁, st1⟩ := Y.newCold hexec (own := own) (C := cls) (index := ik) (n := 6) hown' hk' hins hini'
    (g := F0 m pc ls rest) rfl (by rw [hb]; exact d0) (Nat.le_refl _) (Nat.le_refl _)
  generalize hT1 : (T.setVm vm₁).pushCell { cls := cX, slots := kX.instanceTypes.map defaultValue, vm := .none } = T1 at X₁ st1
  have hcat : (Value.ref T.heap.size).category = 1 := rfl
  have hcellA : T1.heap[T.heap.size]? = some (freshCell cX kX) := by rw [← hT1]; exact State.heap_pushCell_size _ _
  have d3' : decode c.code (pc + 3) = .ok (.dup, 1) := by rw [hb]; exact d3
  have d4' : decode c.code (pc + 4) = .ok (.ldc is, 2) := by rw [hb]; exact d4
  have hstr' : vk_R own is text sa s' := vk_R.warm hW0 hstr
  obtain ⟨V, ce, L, Z, hL, hlt, hcl9, hvm9, st⟩ := en_ctorMadeX X₁ hexec htr x0 x1 x2 x5 (own := own) (cls := cls) (names := names) (ic := ic) hown' hcls hnames h (fun x hx => nomatch hx) hfX hkX hcellA (by rw [hhp]; exact Nat.le_refl _) (msg := .ref sa) rfl
    (g := { method := m, pc := pc + 6, locals := ls, stack := .ref sa :: .ref T.heap.size :: .ref T.heap.size :: rest, locked := none }) rfl hsize (rest := rest) rfl
    (by rw [hb]; exact d6) hRframes (by simp only [List.map_cons, List.sum_cons, hcat]; omega)
  have Z0 := Stand.forget (locs := []) Z (fun y hy => by rw [hL y hy, hhp]; exact Nat.le_refl _)
  obtain ⟨f1, f2⟩ := vx_frame Z0.same
  rw [hhp] at f1 f2
  have hcid : s.vm.findClass cls = some ce.cls := by
    rw [hcl9]
    rw [hvm] at hfX
    exact hfX
  have hh : (V.setCell T.heap.size ce).heap[T.heap.size]? = some ce := heapAt_setCell_self (s := V) ce hlt
  subst hA'
  have X5 := vx_back9 X Y Z0
  have X6 : Stand p l e R s m args below meth c (V.setCell T.heap.size ce) locs (cells + 1) (slots + 6) := { X5 with same := X5.same.mono (by omega) (by omega) }
  obtain ⟨t, a1, b1⟩ := kk T.heap.size (V.setCell T.heap.size ce).heap ce hh hvm9 hcid f1 (fun z hz => f2 z hz (fun y hy => nomatch hy)) ⟨Nat.le_trans hS.1 f1, fun q h1 h2 => (f2 q (Nat.lt_of_lt_of_le h1 hS.1) (fun z hz => nomatch hz)).trans (hS.2.1 q h1 h2), hS.2.2⟩ _ rfl X6
  refine ⟨t, st1 _ ?_, b1⟩
  show Steps p.tables e below (T1.setTop { method := m, pc := pc + 3, locals := ls, stack := .ref T.heap.size :: rest, locked := none }) _
  jvm_step X₁.here [X₁.here.top, hexec, d3', Value.category]
  exact X₁.ldcString hexec (own := own) (text := text) (index := is) (a := sa) hown' hstr'.1 hstr'.2
    (g := { method := m, pc := pc + 4, locals := ls, stack := .ref T.heap.size :: .ref T.heap.size :: rest, locked := none }) rfl d4' _ (st _ a1)
theorem en_makeXW {cc : ByteArray} {pc : Nat} (hexec : p.tables.exec = Jvm.exec) (hb : c.code = cc) (hl : l.stackTraces = false) {own cls text : String} {names : List String} {ik is ic sa : Nat} {A : Nat → Prop}
    {ix : Nat} {rx : ByteArray} (x0 : decode rx 0 = .ok (.aload_n 0, 1)) (x1 : decode rx 1 = .ok (.aload_n 1, 1)) (x2 : decode rx 2 = .ok (.invokespecial ix, 3)) (x5 : decode rx 5 = .ok (.return_, 1))
    (hown : s.vm.findClass own = some m.cls) (hcls : Bundle.fit cls = true) (hnames : ∀ n ∈ names, Bundle.fit n = true)
    (hk : (Cond.classLink own ik cls).before args s = true) (hini : (Cond.initialized cls).before args s = true) (hstr : vk_R own is text sa s) (hat : ∀ w ∈ (Bundle.ownAtomsX own ic cls ix rx names).filter vx_no, w.before args s = true)
    (hgood : ∀ w ∈ Cond.classLink own ik cls :: Cond.initialized cls :: (Bundle.ownAtomsX own ic cls ix rx names).filter vx_no, vx_ot w = true)
    (hU : vx_Zq Bundle.tN "UNASSIGNED_STACK" Bundle.steD A s s.heap) (hN : vx_Zq Bundle.tN "SUPPRESSED_SENTINEL" Bundle.listD A s s.heap) (hS : va_S A s.heap H locs) (hsize : ls.size = c.maxLocals)
    (d0 : decode cc pc = .ok (.new ik, 3)) (d3 : decode cc (pc + 3) = .ok (.dup, 1)) (d4 : decode cc (pc + 4) = .ok (.ldc_w is, 3)) (d7 : decode cc (pc + 7) = .ok (.invokespecial ic, 3))
    (hRframes : names.length + 3 < R.frames) (hRlocals : (rest.map fun v => v.category).sum + (13 * (names.length + 1) + 43) ≤ R.locals) (hRcells : cells + 1 ≤ R.cells) (hRslots : slots + 6 ≤ R.slots)
    (kk : ∀ (q : Nat) (H1 : Heap) (ce : Cell), H1[q]? = some ce → ce.vm = .none → s.vm.findClass cls = some ce.cls → H.size ≤ H1.size → (∀ z : Nat, z < H.size → H1[z]? = H[z]?) → va_S A s.heap H1 locs → W p l e R s m args below meth c H1 locs (cells + 1) (slots + 6) Q (F0 m (pc + 10) ls (.ref q :: rest))) :
    W p l e R s m args below meth c H locs cells slots Q (F0 m pc ls rest) := by
  intro T hT X
  subst hT
  have htr : e.platform.stackTraces = false := (show e.platform.stackTraces = l.stackTraces by rw [X.admits.platform]).trans hl
  have Y := vx_rebase X (R' := { frames := R.frames, locals := R.locals, cells := 1, slots := 6 }) (Nat.le_refl _) (Nat.le_refl _) hRcells hRslots
  obtain ⟨s', hA'⟩ : ∃ z, z = (T.setVm s.vm).setFrames (.invoking m args :: below) := ⟨_, rfl⟩
  rw [← hA'] at Y
  have hvm : s'.vm = s.vm := by rw [hA']; rfl
  have hhp : s'.heap = T.heap := by rw [hA']; rfl
  have hW0 : s.WarmedH s'.vm := by rw [hvm]; exact State.WarmedH.refl s
  have hat' : ∀ w ∈ (Bundle.ownAtomsX own ic cls ix rx names).filter vx_no, w.before args s' = true := fun w hw => vx_ot_at hW0 hvm.symm (hgood w (List.mem_cons_of_mem _ (List.mem_cons_of_mem _ hw))) (hat w hw)
  have hk' : (Cond.classLink own ik cls).before args s' = true := vx_ot_at hW0 hvm.symm (hgood _ List.mem_cons_self) hk
  have hini' : (Cond.initialized cls).before args s' = true := vx_ot_at hW0 hvm.symm (hgood _ (List.mem_cons_of_mem _ List.mem_cons_self)) hini
  have hU' : vx_Zq Bundle.tN "UNASSIGNED_STACK" Bundle.steD A s' s'.heap := by rw [hhp]; exact vx_Zq.moved hW0.alike (hU.kept hS.2.1)
  have hN' : vx_Zq Bundle.tN "SUPPRESSED_SENTINEL" Bundle.listD A s' s'.heap := by rw [hhp]; exact vx_Zq.moved hW0.alike (hN.kept hS.2.1)
  have h : ∀ w ∈ Bundle.ownAtomsX own ic cls ix rx names, w.before args s' = true := vx_own hat' (vx_isRefq hU'.1) (vx_isRefq hN'.1) hU'.2.word hN'.2.word
  have hown' : s'.vm.findClass own = some m.cls := by rw [hvm]; exact hown
  have hins : (Cond.instantiable cls 6).before args s' = true := h _ (by simp [Bundle.ownAtomsX])
  obtain ⟨vm₁, cX, kX, hfX, hkX, -, -, X₁, st1⟩ := Y.newCold hexec (own := own) (C := cls) (index := ik) (n := 6) hown' hk' hins hini'
    (g := F0 m pc ls rest) rfl (by rw [hb]; exact d0) (Nat.le_refl _) (Nat.le_refl _)
  generalize hT1 : (T.setVm vm₁).pushCell { cls := cX, slots := kX.instanceTypes.map defaultValue, vm := .none } = T1 at X₁ st1
  have hcat : (Value.ref T.heap.size).category = 1 := rfl
  have hcellA : T1.heap[T.heap.size]? = some (freshCell cX kX) := by rw [← hT1]; exact State.heap_pushCell_size _ _
  have d3' : decode c.code (pc + 3) = .ok (.dup, 1) := by rw [hb]; exact d3
  have d4' : decode c.code (pc + 4) = .ok (.ldc_w is, 3) := by rw [hb]; exact d4
  have hstr' : vk_R own is text sa s' := vk_R.warm hW0 hstr
  obtain ⟨V, ce, L, Z, hL, hlt, hcl9, hvm9, st⟩ := en_ctorMadeX X₁ hexec htr x0 x1 x2 x5 (own := own) (cls := cls) (names := names) (ic := ic) hown' hcls hnames h (fun x hx => nomatch hx) hfX hkX hcellA (by rw [hhp]; exact Nat.le_refl _) (msg := .ref sa) rfl
    (g := { method := m, pc := pc + 7, locals := ls, stack := .ref sa :: .ref T.heap.size :: .ref T.heap.size :: rest, locked := none }) rfl hsize (rest := rest) rfl
    (by rw [hb]; exact d7) hRframes (by simp only [List.map_cons, List.sum_cons, hcat]; omega)
  have Z0 := Stand.forget (locs := []) Z (fun y hy => by rw [hL y hy, hhp]; exact Nat.le_refl _)
  obtain ⟨f1, f2⟩ := vx_frame Z0.same
  rw [hhp] at f1 f2
  have hcid : s.vm.findClass cls = some ce.cls := by
    rw [hcl9]
    rw [hvm] at hfX
    exact hfX
  have hh : (V.setCell T.heap.size ce).heap[T.heap.size]? = some ce := heapAt_setCell_self (s := V) ce hlt
  subst hA'
  have X5 := vx_back9 X Y Z0
  have X6 : Stand p l e R s m args below meth c (V.setCell T.heap.size ce) locs (cells + 1) (slots + 6) := { X5 with same := X5.same.mono (by omega) (by omega) }
  obtain ⟨t, a1, b1⟩ := kk T.heap.size (V.setCell T.heap.size ce).heap ce hh hvm9 hcid f1 (fun z hz => f2 z hz (fun y hy => nomatch hy)) ⟨Nat.le_trans hS.1 f1, fun q h1 h2 => (f2 q (Nat.lt_of_lt_of_le h1 hS.1) (fun z hz => nomatch hz)).trans (hS.2.1 q h1 h2), hS.2.2⟩ _ rfl X6
  refine ⟨t, st1 _ ?_, b1⟩
  show Steps p.tables e below (T1.setTop { method := m, pc := pc + 3, locals := ls, stack := .ref T.heap.size :: rest, locked := none }) _
  jvm_step X₁.here [X₁.here.top, hexec, d3', Value.category]
  exact X₁.ldcStringW hexec (own := own) (text := text) (index := is) (a := sa) hown' hstr'.1 hstr'.2
    (g := { method := m, pc := pc + 4, locals := ls, stack := .ref T.heap.size :: .ref T.heap.size :: rest, locked := none }) rfl d4' _ (st _ a1)
end en_vxk2
/-! The engine's rows: a thrown exception; texts; copies of rows. -/
def en_sup : List String := ["java/lang/RuntimeException", "java/lang/Exception"]
/-- the words of the four exceptions: the good ones, the others -/
def en_ics : List Nat := [87, 150, 162, 194]
def en_iks : List Nat := [83, 146, 158, 190]
def en_xw (n : Nat) : List Cond := vx_atS RX9 (en_ics.getD n 0) (en_exc n) en_sup
theorem en_xw_bad : ∀ n, n < 3 → ∀ w ∈ en_xw n, goodWord w = false → (match w with | .castable C T => decide (Cond.castable C T ∈ tables_1) | .declares x => decide (Cond.declares x ∈ tables_1) | _ => false) = true := by decide +kernel
theorem en_xw_ot : ∀ n, n < 3 → ∀ w ∈ en_xw n, vx_ot w = true := by decide +kernel
theorem en_xw_good : ∀ n, n < 3 → ∀ w ∈ en_xw n, goodWord w = true → w ∈ lw_tbl := by decide +kernel
theorem en_xw_ik : ∀ n, n < 4 → Cond.classLink RX9 (en_iks.getD n 0) (en_exc n) ∈ lw_tbl ∧ Cond.initialized (en_exc n) ∈ lw_tbl := by decide +kernel
theorem en_xw_fit : ∀ n, n < 4 → Bundle.fit (en_exc n) = true := by decide +kernel
theorem en_xw_fit2 : ∀ n ∈ en_sup, Bundle.fit n = true := by decide +kernel
section en_thr
variable {G : en_G} {d mc ms : Nat} {μ : en_D} {cs : List en_A} {ρ : en_R} {σ : en_M} {bc bs pc : Nat} {ls : List (Option en_V)} {st : List en_V}
theorem en_xw_all {G : en_G} {s : State} {args : Array Value} {n : Nat} (hn : n < 3) (hts : ∀ w ∈ en_tw, w.before args s = true) (hfx : en_fx G s s.heap) : ∀ w ∈ en_xw n, w.before args s = true := by
  intro w hw
  cases hg : goodWord w with
  | true => exact hts w (List.mem_filter.mpr ⟨en_xw_good n hn w hw hg, hg⟩)
  | false =>
    have hb := en_xw_bad n hn w hw hg
    obtain ⟨-, -, -, -, -, -, -, -, -, -, -, h9, h10, -, -⟩ := hfx
    cases w with
    | castable C T => exact va_Nw.use rfl (h9 C T (by simpa using hb))
    | declares x => exact va_Nw.use rfl (h10 x (by simpa using hb))
    | _ => cases hb
/-- throw new E("a text"), five instructions -/
theorem en_s_throw0 {n is : Nat} {text : String} {l0 l3 l4 l6 l9 n3 n4 n6 n9 n10 a0 a3 a4 a6 a9 b0 b3 b4 b6 b9 : Nat} {v0 v3 v4 v6 v9 : Int32} (hn : n < 3) (ho : en_own μ.2.2.2.2.1 = RX9) (hh : μ.2.2.2.2.2.1 = []) (ht : (is, text) ∈ en_msgs)
    (c0 : μ.2.2.2.2.2.2 pc = some (.new (en_iks.getD n 0), l0, n3, a0, b0, v0)) (c3 : μ.2.2.2.2.2.2 (pc + 3) = some (.dup, l3, n4, a3, b3, v3)) (c4 : μ.2.2.2.2.2.2 (pc + 4) = some (.ldc is, l4, n6, a4, b4, v4)) (c6 : μ.2.2.2.2.2.2 (pc + 6) = some (.invokespecial (en_ics.getD n 0), l6, n9, a6, b6, v6)) (c9 : μ.2.2.2.2.2.2 (pc + 9) = some (.athrow, l9, n10, a9, b9, v9)) (hcat : Nat.ble (st.map en_cat).sum 8 = true) :
    en_W G (d + 6) mc ms μ (.inl n) cs ρ σ (bc + 1) (bs + 6) pc ls st cs ρ σ := by
  intro p e s m args below meth c H locs cells slots la C hS hw hbc hbs hl hst
  obtain ⟨d0, -, g0⟩ := en_dec C c0
  obtain ⟨d3, -, g3⟩ := en_dec C c3
  obtain ⟨d4, -, g4⟩ := en_dec C c4
  obtain ⟨d6, -, g6⟩ := en_dec C c6
  obtain ⟨d9, -, g9⟩ := en_dec C c9
  simp only [en_gd, Bool.and_eq_true, beq_iff_eq, decide_eq_true_eq] at g0 g3 g4 g6 g9
  obtain ⟨-, rfl⟩ := g0
  obtain ⟨-, rfl⟩ := g3
  obtain ⟨-, rfl⟩ := g4
  obtain ⟨-, rfl⟩ := g6
  obtain ⟨-, rfl⟩ := g9
  have hfx := C.2.2.2.2.2.2.2.2.2.1
  have hown := C.2.2.2.1
  rw [ho] at hown
  obtain ⟨sa, hsa⟩ := hfx.2.2.2.2.2.2.2.1 _ ht
  obtain ⟨k1, k2⟩ := en_xw_ik n (by omega)
  have hcs := en_cat_sum (G := G) hcat
  refine vx_throwS (names := en_sup) (cls := en_exc n) (A := en_up G) C.1 C.2.1 hfx.2.2.2.2.2.2.2.2.2.2.2.2.2.2.1 hown (en_xw_fit n (by omega)) en_xw_fit2 (C.2.2.2.2.1 _ (List.mem_filter.mpr ⟨k1, rfl⟩)) (C.2.2.2.2.1 _ (List.mem_filter.mpr ⟨k2, rfl⟩)) hsa (en_xw_all hn C.2.2.2.2.1 hfx) ?_ hfx.2.2.2.2.2.2.2.2.2.1 hfx.2.2.2.2.2.2.2.2.2.2.1 hS (by rw [en_lsz hl, C.2.2.1]) d0 d3 d4 d6 d9 ?_ (by simp only [en_rm, en_sup, List.length_cons, List.length_nil]; omega) (by simp only [en_rm, en_sup, List.length_cons, List.length_nil]; omega) (by simp only [en_rm]; omega) (by simp only [en_rm]; omega) C.2.2.2.2.2.2.1 ?_ hS.2.2 (by omega) (by omega)
  · intro w hw
    rcases List.mem_cons.mp hw with rfl | hw
    · rfl
    · rcases List.mem_cons.mp hw with rfl | hw
      · rfl
      · exact en_xw_ot n hn w hw
  · intro x hx
    rw [C.2.2.2.2.2.2.2.2.1, hh] at hx
    cases hx
  · intro t hal hsz hk
    refine ⟨⟨n, rfl, rfl⟩, ⟨hw.1.kept (fun k q hq => hk q.1 (hw.1 k q hq).lt), hw.2⟩, Nat.le_trans hS.1 hsz, fun q hq hA => ?_⟩
    rw [hk q (Nat.lt_of_lt_of_le hq hS.1)]
    exact hS.2.1 q hq hA
/-- throw new E("a text"), five instructions, the text by a wide index -/
theorem en_s_throwW0 {n is : Nat} {text : String} {l0 l3 l4 l6 l9 n3 n4 n6 n9 n10 a0 a3 a4 a6 a9 b0 b3 b4 b6 b9 : Nat} {v0 v3 v4 v6 v9 : Int32} (hn : n < 3) (ho : en_own μ.2.2.2.2.1 = RX9) (hh : μ.2.2.2.2.2.1 = []) (ht : (is, text) ∈ en_msgs)
    (c0 : μ.2.2.2.2.2.2 pc = some (.new (en_iks.getD n 0), l0, n3, a0, b0, v0)) (c3 : μ.2.2.2.2.2.2 (pc + 3) = some (.dup, l3, n4, a3, b3, v3)) (c4 : μ.2.2.2.2.2.2 (pc + 4) = some (.ldc_w is, l4, n6, a4, b4, v4)) (c6 : μ.2.2.2.2.2.2 (pc + 7) = some (.invokespecial (en_ics.getD n 0), l6, n9, a6, b6, v6)) (c9 : μ.2.2.2.2.2.2 (pc + 10) = some (.athrow, l9, n10, a9, b9, v9)) (hcat : Nat.ble (st.map en_cat).sum 8 = true) :
    en_W G (d + 6) mc ms μ (.inl n) cs ρ σ (bc + 1) (bs + 6) pc ls st cs ρ σ := by
  intro p e s m args below meth c H locs cells slots la C hS hw hbc hbs hl hst
  obtain ⟨d0, -, g0⟩ := en_dec C c0
  obtain ⟨d3, -, g3⟩ := en_dec C c3
  obtain ⟨d4, -, g4⟩ := en_dec C c4
  obtain ⟨d6, -, g6⟩ := en_dec C c6
  obtain ⟨d9, -, g9⟩ := en_dec C c9
  simp only [en_gd, Bool.and_eq_true, beq_iff_eq, decide_eq_true_eq] at g0 g3 g4 g6 g9
  obtain ⟨-, rfl⟩ := g0
  obtain ⟨-, rfl⟩ := g3
  obtain ⟨-, rfl⟩ := g4
  obtain ⟨-, rfl⟩ := g6
  obtain ⟨-, rfl⟩ := g9
  have hfx := C.2.2.2.2.2.2.2.2.2.1
  have hown := C.2.2.2.1
  rw [ho] at hown
  obtain ⟨sa, hsa⟩ := hfx.2.2.2.2.2.2.2.1 _ ht
  obtain ⟨k1, k2⟩ := en_xw_ik n (by omega)
  have hcs := en_cat_sum (G := G) hcat
  refine vx_throwSW (names := en_sup) (cls := en_exc n) (A := en_up G) C.1 C.2.1 hfx.2.2.2.2.2.2.2.2.2.2.2.2.2.2.1 hown (en_xw_fit n (by omega)) en_xw_fit2 (C.2.2.2.2.1 _ (List.mem_filter.mpr ⟨k1, rfl⟩)) (C.2.2.2.2.1 _ (List.mem_filter.mpr ⟨k2, rfl⟩)) hsa (en_xw_all hn C.2.2.2.2.1 hfx) ?_ hfx.2.2.2.2.2.2.2.2.2.1 hfx.2.2.2.2.2.2.2.2.2.2.1 hS (by rw [en_lsz hl, C.2.2.1]) d0 d3 d4 d6 d9 ?_ (by simp only [en_rm, en_sup, List.length_cons, List.length_nil]; omega) (by simp only [en_rm, en_sup, List.length_cons, List.length_nil]; omega) (by simp only [en_rm]; omega) (by simp only [en_rm]; omega) C.2.2.2.2.2.2.1 ?_ hS.2.2 (by omega) (by omega)
  · intro w hw
    rcases List.mem_cons.mp hw with rfl | hw
    · rfl
    · rcases List.mem_cons.mp hw with rfl | hw
      · rfl
      · exact en_xw_ot n hn w hw
  · intro x hx
    rw [C.2.2.2.2.2.2.2.2.1, hh] at hx
    cases hx
  · intro t hal hsz hk
    refine ⟨⟨n, rfl, rfl⟩, ⟨hw.1.kept (fun k q hq => hk q.1 (hw.1 k q hq).lt), hw.2⟩, Nat.le_trans hS.1 hsz, fun q hq hA => ?_⟩
    rw [hk q (Nat.lt_of_lt_of_le hq hS.1)]
    exact hS.2.1 q hq hA
def en_xw3 : List Cond := (Bundle.ownAtomsX RX9 194 (en_exc 3) 13 prog_29_method_4_code en_sup).filter vx_no
theorem en_xw3_bad : ∀ w ∈ en_xw3, goodWord w = false → (match w with | .castable C T => decide (Cond.castable C T ∈ tables_1) | .declares x => decide (Cond.declares x ∈ tables_1) | _ => false) = true := by decide +kernel
theorem en_xw3_ot : ∀ w ∈ en_xw3, vx_ot w = true := by decide +kernel
theorem en_xw3_good : ∀ w ∈ en_xw3, goodWord w = true → w ∈ lw_tbl := by decide +kernel
theorem en_xw3_all {G : en_G} {s : State} {args : Array Value} (hts : ∀ w ∈ en_tw, w.before args s = true) (hfx : en_fx G s s.heap) : ∀ w ∈ en_xw3, w.before args s = true := by
  intro w hw
  cases hg : goodWord w with
  | true => exact hts w (List.mem_filter.mpr ⟨en_xw3_good w hw hg, hg⟩)
  | false =>
    have hb := en_xw3_bad w hw hg
    obtain ⟨-, -, -, -, -, -, -, -, -, -, -, h9, h10, -, -⟩ := hfx
    cases w with
    | castable C T => exact va_Nw.use rfl (h9 C T (by simpa using hb))
    | declares x => exact va_Nw.use rfl (h10 x (by simpa using hb))
    | _ => cases hb
/-- NoSuchElementException: its constructor links otherwise -/
theorem en_s_throw3 {is : Nat} {text : String} {l0 l3 l4 l6 l9 n3 n4 n6 n9 n10 a0 a3 a4 a6 a9 b0 b3 b4 b6 b9 : Nat} {v0 v3 v4 v6 v9 : Int32} (ho : en_own μ.2.2.2.2.1 = RX9) (hh : μ.2.2.2.2.2.1 = []) (ht : (is, text) ∈ en_msgs)
    (c0 : μ.2.2.2.2.2.2 pc = some (.new (190), l0, n3, a0, b0, v0)) (c3 : μ.2.2.2.2.2.2 (pc + 3) = some (.dup, l3, n4, a3, b3, v3)) (c4 : μ.2.2.2.2.2.2 (pc + 4) = some (.ldc is, l4, n6, a4, b4, v4)) (c6 : μ.2.2.2.2.2.2 (pc + 6) = some (.invokespecial (194), l6, n9, a6, b6, v6)) (c9 : μ.2.2.2.2.2.2 (pc + 9) = some (.athrow, l9, n10, a9, b9, v9)) (hcat : Nat.ble (st.map en_cat).sum 8 = true) :
    en_W G (d + 6) mc ms μ (.inl 3) cs ρ σ (bc + 1) (bs + 6) pc ls st cs ρ σ := by
  intro p e s m args below meth c H locs cells slots la C hS hw hbc hbs hl hst
  obtain ⟨d0, -, g0⟩ := en_dec C c0
  obtain ⟨d3, -, g3⟩ := en_dec C c3
  obtain ⟨d4, -, g4⟩ := en_dec C c4
  obtain ⟨d6, -, g6⟩ := en_dec C c6
  obtain ⟨d9, -, g9⟩ := en_dec C c9
  simp only [en_gd, Bool.and_eq_true, beq_iff_eq, decide_eq_true_eq] at g0 g3 g4 g6 g9
  obtain ⟨-, rfl⟩ := g0
  obtain ⟨-, rfl⟩ := g3
  obtain ⟨-, rfl⟩ := g4
  obtain ⟨-, rfl⟩ := g6
  obtain ⟨-, rfl⟩ := g9
  have hfx := C.2.2.2.2.2.2.2.2.2.1
  have hown := C.2.2.2.1
  rw [ho] at hown
  obtain ⟨sa, hsa⟩ := hfx.2.2.2.2.2.2.2.1 _ ht
  obtain ⟨k1, k2⟩ := en_xw_ik 3 (by omega)
  have hcs := en_cat_sum (G := G) hcat
  refine en_makeX (names := en_sup) (cls := en_exc 3) (A := en_up G) (ix := 13) (rx := prog_29_method_4_code) (ic := 194) (ik := 190) C.1 C.2.1 hfx.2.2.2.2.2.2.2.2.2.2.2.2.2.2.1 (by decide +kernel) (by decide +kernel) (by decide +kernel) (by decide +kernel) hown (en_xw_fit 3 (by omega)) en_xw_fit2 (C.2.2.2.2.1 _ (List.mem_filter.mpr ⟨k1, rfl⟩)) (C.2.2.2.2.1 _ (List.mem_filter.mpr ⟨k2, rfl⟩)) hsa (en_xw3_all C.2.2.2.2.1 hfx) ?_ hfx.2.2.2.2.2.2.2.2.2.1 hfx.2.2.2.2.2.2.2.2.2.2.1 hS (by rw [en_lsz hl, C.2.2.1]) d0 d3 d4 d6 (by simp only [en_rm, en_sup, List.length_cons, List.length_nil]; omega) (by simp only [en_rm, en_sup, List.length_cons, List.length_nil]; omega) (by simp only [en_rm]; omega) (by simp only [en_rm]; omega) ?_
  · intro w hw
    rcases List.mem_cons.mp hw with rfl | hw
    · rfl
    · rcases List.mem_cons.mp hw with rfl | hw
      · rfl
      · exact en_xw3_ot w hw
  · intro q H1 ce hce hv hcl hsz hkp hS1
    refine vx_athrow C.1 C.2.1 d9 ?_
    refine vx_out (E := en_exc 3) (ce := ce) ?_ C.2.2.2.2.2.2.1 hce hv hcl (fun t ht9 _ => ?_) hS1.2.2 (by omega) (by omega)
    · intro x hx
      rw [C.2.2.2.2.2.2.2.2.1, hh] at hx
      cases hx
    · refine ⟨⟨3, rfl, rfl⟩, ⟨?_, hw.2⟩, ?_, fun q hq hA => ?_⟩
      · rw [ht9]
        exact hw.1.kept (fun k q hq => hkp q.1 (hw.1 k q hq).lt)
      · rw [ht9]
        exact Nat.le_trans hS.1 hsz
      · rw [ht9, hkp q (Nat.lt_of_lt_of_le hq hS.1)]
        exact hS.2.1 q hq hA
theorem en_s_throw {n is : Nat} {text : String} {l0 l3 l4 l6 l9 n3 n4 n6 n9 n10 a0 a3 a4 a6 a9 b0 b3 b4 b6 b9 : Nat} {v0 v3 v4 v6 v9 : Int32} (hn : n < 4) (ho : en_own μ.2.2.2.2.1 = RX9) (hh : μ.2.2.2.2.2.1 = []) (ht : (is, text) ∈ en_msgs)
    (c0 : μ.2.2.2.2.2.2 pc = some (.new (en_iks.getD n 0), l0, n3, a0, b0, v0)) (c3 : μ.2.2.2.2.2.2 (pc + 3) = some (.dup, l3, n4, a3, b3, v3)) (c4 : μ.2.2.2.2.2.2 (pc + 4) = some (.ldc is, l4, n6, a4, b4, v4)) (c6 : μ.2.2.2.2.2.2 (pc + 6) = some (.invokespecial (en_ics.getD n 0), l6, n9, a6, b6, v6)) (c9 : μ.2.2.2.2.2.2 (pc + 9) = some (.athrow, l9, n10, a9, b9, v9)) (hcat : Nat.ble (st.map en_cat).sum 8 = true) :
    en_W G (d + 6) mc ms μ (.inl n) cs ρ σ (bc + 1) (bs + 6) pc ls st cs ρ σ := by
  by_cases h3 : n < 3
  · exact en_s_throw0 h3 ho hh ht c0 c3 c4 c6 c9 hcat
  · have h4 : n = 3 := by omega
    subst h4
    exact en_s_throw3 ho hh ht c0 c3 c4 c6 c9 hcat
/-- NoSuchElementException: its constructor links otherwise -/
theorem en_s_throwW3 {is : Nat} {text : String} {l0 l3 l4 l6 l9 n3 n4 n6 n9 n10 a0 a3 a4 a6 a9 b0 b3 b4 b6 b9 : Nat} {v0 v3 v4 v6 v9 : Int32} (ho : en_own μ.2.2.2.2.1 = RX9) (hh : μ.2.2.2.2.2.1 = []) (ht : (is, text) ∈ en_msgs)
    (c0 : μ.2.2.2.2.2.2 pc = some (.new (190), l0, n3, a0, b0, v0)) (c3 : μ.2.2.2.2.2.2 (pc + 3) = some (.dup, l3, n4, a3, b3, v3)) (c4 : μ.2.2.2.2.2.2 (pc + 4) = some (.ldc_w is, l4, n6, a4, b4, v4)) (c6 : μ.2.2.2.2.2.2 (pc + 7) = some (.invokespecial (194), l6, n9, a6, b6, v6)) (c9 : μ.2.2.2.2.2.2 (pc + 10) = some (.athrow, l9, n10, a9, b9, v9)) (hcat : Nat.ble (st.map en_cat).sum 8 = true) :
    en_W G (d + 6) mc ms μ (.inl 3) cs ρ σ (bc + 1) (bs + 6) pc ls st cs ρ σ := by
  intro p e s m args below meth c H locs cells slots la C hS hw hbc hbs hl hst
  obtain ⟨d0, -, g0⟩ := en_dec C c0
  obtain ⟨d3, -, g3⟩ := en_dec C c3
  obtain ⟨d4, -, g4⟩ := en_dec C c4
  obtain ⟨d6, -, g6⟩ := en_dec C c6
  obtain ⟨d9, -, g9⟩ := en_dec C c9
  simp only [en_gd, Bool.and_eq_true, beq_iff_eq, decide_eq_true_eq] at g0 g3 g4 g6 g9
  obtain ⟨-, rfl⟩ := g0
  obtain ⟨-, rfl⟩ := g3
  obtain ⟨-, rfl⟩ := g4
  obtain ⟨-, rfl⟩ := g6
  obtain ⟨-, rfl⟩ := g9
  have hfx := C.2.2.2.2.2.2.2.2.2.1
  have hown := C.2.2.2.1
  rw [ho] at hown
  obtain ⟨sa, hsa⟩ := hfx.2.2.2.2.2.2.2.1 _ ht
  obtain ⟨k1, k2⟩ := en_xw_ik 3 (by omega)
  have hcs := en_cat_sum (G := G) hcat
  refine en_makeXW (names := en_sup) (cls := en_exc 3) (A := en_up G) (ix := 13) (rx := prog_29_method_4_code) (ic := 194) (ik := 190) C.1 C.2.1 hfx.2.2.2.2.2.2.2.2.2.2.2.2.2.2.1 (by decide +kernel) (by decide +kernel) (by decide +kernel) (by decide +kernel) hown (en_xw_fit 3 (by omega)) en_xw_fit2 (C.2.2.2.2.1 _ (List.mem_filter.mpr ⟨k1, rfl⟩)) (C.2.2.2.2.1 _ (List.mem_filter.mpr ⟨k2, rfl⟩)) hsa (en_xw3_all C.2.2.2.2.1 hfx) ?_ hfx.2.2.2.2.2.2.2.2.2.1 hfx.2.2.2.2.2.2.2.2.2.2.1 hS (by rw [en_lsz hl, C.2.2.1]) d0 d3 d4 d6 (by simp only [en_rm, en_sup, List.length_cons, List.length_nil]; omega) (by simp only [en_rm, en_sup, List.length_cons, List.length_nil]; omega) (by simp only [en_rm]; omega) (by simp only [en_rm]; omega) ?_
  · intro w hw
    rcases List.mem_cons.mp hw with rfl | hw
    · rfl
    · rcases List.mem_cons.mp hw with rfl | hw
      · rfl
      · exact en_xw3_ot w hw
  · intro q H1 ce hce hv hcl hsz hkp hS1
    refine vx_athrow C.1 C.2.1 d9 ?_
    refine vx_out (E := en_exc 3) (ce := ce) ?_ C.2.2.2.2.2.2.1 hce hv hcl (fun t ht9 _ => ?_) hS1.2.2 (by omega) (by omega)
    · intro x hx
      rw [C.2.2.2.2.2.2.2.2.1, hh] at hx
      cases hx
    · refine ⟨⟨3, rfl, rfl⟩, ⟨?_, hw.2⟩, ?_, fun q hq hA => ?_⟩
      · rw [ht9]
        exact hw.1.kept (fun k q hq => hkp q.1 (hw.1 k q hq).lt)
      · rw [ht9]
        exact Nat.le_trans hS.1 hsz
      · rw [ht9, hkp q (Nat.lt_of_lt_of_le hq hS.1)]
        exact hS.2.1 q hq hA
theorem en_s_throwW {n is : Nat} {text : String} {l0 l3 l4 l6 l9 n3 n4 n6 n9 n10 a0 a3 a4 a6 a9 b0 b3 b4 b6 b9 : Nat} {v0 v3 v4 v6 v9 : Int32} (hn : n < 4) (ho : en_own μ.2.2.2.2.1 = RX9) (hh : μ.2.2.2.2.2.1 = []) (ht : (is, text) ∈ en_msgs)
    (c0 : μ.2.2.2.2.2.2 pc = some (.new (en_iks.getD n 0), l0, n3, a0, b0, v0)) (c3 : μ.2.2.2.2.2.2 (pc + 3) = some (.dup, l3, n4, a3, b3, v3)) (c4 : μ.2.2.2.2.2.2 (pc + 4) = some (.ldc_w is, l4, n6, a4, b4, v4)) (c6 : μ.2.2.2.2.2.2 (pc + 7) = some (.invokespecial (en_ics.getD n 0), l6, n9, a6, b6, v6)) (c9 : μ.2.2.2.2.2.2 (pc + 10) = some (.athrow, l9, n10, a9, b9, v9)) (hcat : Nat.ble (st.map en_cat).sum 8 = true) :
    en_W G (d + 6) mc ms μ (.inl n) cs ρ σ (bc + 1) (bs + 6) pc ls st cs ρ σ := by
  by_cases h3 : n < 3
  · exact en_s_throwW0 h3 ho hh ht c0 c3 c4 c6 c9 hcat
  · have h4 : n = 3 := by omega
    subst h4
    exact en_s_throwW3 ho hh ht c0 c3 c4 c6 c9 hcat
end en_thr

/-! The engine's rows: an instruction each. -/
section en_rows
variable {G : en_G} {d mc ms : Nat} {μ : en_D} {r : en_P} {cs cs' : List en_A} {ρ ρ' : en_R} {σ σ' : en_M} {bc bs pc len nx a b : Nat} {v : Int32} {ls : List (Option en_V)} {st : List en_V}
theorem en_dec {p : Program} {s : State} {m : MethodId} {args : Array Value} {meth : Method} {c : Code} {ins : Instr} (C : en_cx G μ p s m args meth c) (h : μ.2.2.2.2.2.2 pc = some (ins, len, nx, a, b, v)) : decode μ.2.1 pc = .ok (ins, len) ∧ nx = pc + len ∧ en_gd μ.2.2.2.2.1 pc (ins, len, nx, a, b, v) = true := by
  obtain ⟨-, -, -, -, -, -, -, -, -, -, ok, -⟩ := C
  obtain ⟨h1, h2⟩ := ok pc _ h
  refine ⟨h1, ?_, h2⟩
  simp only [en_gd, Bool.and_eq_true, beq_iff_eq] at h2
  exact h2.1
/-- a row of the kit that touches the stack alone -/
theorem en_go {st' : List en_V} {nx' : Nat} (hrow : ∀ (p : Program) (e : Env) (s : State) (m : MethodId) (args : Array Value) (below : List Frame) (meth : Method) (c : Code) (H : Heap) (locs : List Loc) (cells slots : Nat) (la : Array Slot) (Q : State → Prop),
      en_cx G μ p s m args meth c → en_ls G cs μ.2.2.1 la ls → W p G.1 e (en_rm d mc ms) s m args below meth c H locs cells slots Q (F0 m nx' la (st'.map (en_tr G))) → W p G.1 e (en_rm d mc ms) s m args below meth c H locs cells slots Q (F0 m pc la (st.map (en_tr G))))
    (hok : en_oks cs st → (∀ (i : Nat) (w : en_V), ls[i]? = some (some w) → en_okv cs w) → en_oks cs st') (k : en_W G d mc ms μ r cs' ρ' σ' bc bs nx' ls st' cs ρ σ) : en_W G d mc ms μ r cs' ρ' σ' bc bs pc ls st cs ρ σ := by
  intro p e s m args below meth c H locs cells slots la C hS hw hbc hbs hl hst
  exact hrow p e s m args below meth c H locs cells slots la _ C hl (k p e s m args below meth c H locs cells slots la C hS hw hbc hbs hl (hok hst (fun i w h => (hl.2.2 i w h).2.2)))
theorem en_s_iconst {n : Int} (hc : μ.2.2.2.2.2.2 pc = some (.iconst n, len, nx, a, b, v))  (k : en_W G d mc ms μ r cs' ρ' σ' bc bs nx ls (.inl v :: st) cs ρ σ) : en_W G d mc ms μ r cs' ρ' σ' bc bs pc ls (st) cs ρ σ := by
  refine en_go (fun p e s m args below meth c H locs cells slots la Q C hl w => ?_) (fun h hl => en_oks_c en_ok_i h) k
  obtain ⟨h1, h2, h3⟩ := en_dec C hc
  simp only [en_gd, Bool.and_eq_true, beq_iff_eq, decide_eq_true_eq] at h3
  obtain ⟨-, rfl, h4⟩ := h3
  subst h2
  exact lv_iconst C.1 C.2.1 h1 h4 w
theorem en_s_bipush {n : Int} (hc : μ.2.2.2.2.2.2 pc = some (.bipush n, len, nx, a, b, v))  (k : en_W G d mc ms μ r cs' ρ' σ' bc bs nx ls (.inl v :: st) cs ρ σ) : en_W G d mc ms μ r cs' ρ' σ' bc bs pc ls (st) cs ρ σ := by
  refine en_go (fun p e s m args below meth c H locs cells slots la Q C hl w => ?_) (fun h hl => en_oks_c en_ok_i h) k
  obtain ⟨h1, h2, h3⟩ := en_dec C hc
  simp only [en_gd, Bool.and_eq_true, beq_iff_eq, decide_eq_true_eq] at h3
  obtain ⟨-, rfl, h4⟩ := h3
  subst h2
  exact lv_bipush C.1 C.2.1 h1 h4 w
theorem en_s_sipush {n : Int} (hc : μ.2.2.2.2.2.2 pc = some (.sipush n, len, nx, a, b, v))  (k : en_W G d mc ms μ r cs' ρ' σ' bc bs nx ls (.inl v :: st) cs ρ σ) : en_W G d mc ms μ r cs' ρ' σ' bc bs pc ls (st) cs ρ σ := by
  refine en_go (fun p e s m args below meth c H locs cells slots la Q C hl w => ?_) (fun h hl => en_oks_c en_ok_i h) k
  obtain ⟨h1, h2, h3⟩ := en_dec C hc
  simp only [en_gd, Bool.and_eq_true, beq_iff_eq, decide_eq_true_eq] at h3
  obtain ⟨-, rfl, h4⟩ := h3
  subst h2
  exact lv_sipush C.1 C.2.1 h1 h4 w
theorem en_s_iadd {x y : Int32} (hc : μ.2.2.2.2.2.2 pc = some (.iadd, len, nx, a, b, v))  (k : en_W G d mc ms μ r cs' ρ' σ' bc bs nx ls (.inl (x + y) :: st) cs ρ σ) : en_W G d mc ms μ r cs' ρ' σ' bc bs pc ls (.inl y :: .inl x :: st) cs ρ σ := by
  refine en_go (fun p e s m args below meth c H locs cells slots la Q C hl w => ?_) (fun h hl => en_oks_c en_ok_i (en_oks_t (en_oks_t h))) k
  obtain ⟨h1, h2, h3⟩ := en_dec C hc
  simp only [en_gd, Bool.and_eq_true, beq_iff_eq, decide_eq_true_eq] at h3
  obtain ⟨-, rfl⟩ := h3
  subst h2
  exact lv_iadd C.1 C.2.1 h1 w
theorem en_s_isub {x y : Int32} (hc : μ.2.2.2.2.2.2 pc = some (.isub, len, nx, a, b, v))  (k : en_W G d mc ms μ r cs' ρ' σ' bc bs nx ls (.inl (x - y) :: st) cs ρ σ) : en_W G d mc ms μ r cs' ρ' σ' bc bs pc ls (.inl y :: .inl x :: st) cs ρ σ := by
  refine en_go (fun p e s m args below meth c H locs cells slots la Q C hl w => ?_) (fun h hl => en_oks_c en_ok_i (en_oks_t (en_oks_t h))) k
  obtain ⟨h1, h2, h3⟩ := en_dec C hc
  simp only [en_gd, Bool.and_eq_true, beq_iff_eq, decide_eq_true_eq] at h3
  obtain ⟨-, rfl⟩ := h3
  subst h2
  exact lv_isub C.1 C.2.1 h1 w
theorem en_s_imul {x y : Int32} (hc : μ.2.2.2.2.2.2 pc = some (.imul, len, nx, a, b, v))  (k : en_W G d mc ms μ r cs' ρ' σ' bc bs nx ls (.inl (x * y) :: st) cs ρ σ) : en_W G d mc ms μ r cs' ρ' σ' bc bs pc ls (.inl y :: .inl x :: st) cs ρ σ := by
  refine en_go (fun p e s m args below meth c H locs cells slots la Q C hl w => ?_) (fun h hl => en_oks_c en_ok_i (en_oks_t (en_oks_t h))) k
  obtain ⟨h1, h2, h3⟩ := en_dec C hc
  simp only [en_gd, Bool.and_eq_true, beq_iff_eq, decide_eq_true_eq] at h3
  obtain ⟨-, rfl⟩ := h3
  subst h2
  exact lv_imul C.1 C.2.1 h1 w
theorem en_s_iand {x y : Int32} (hc : μ.2.2.2.2.2.2 pc = some (.iand, len, nx, a, b, v))  (k : en_W G d mc ms μ r cs' ρ' σ' bc bs nx ls (.inl (x &&& y) :: st) cs ρ σ) : en_W G d mc ms μ r cs' ρ' σ' bc bs pc ls (.inl y :: .inl x :: st) cs ρ σ := by
  refine en_go (fun p e s m args below meth c H locs cells slots la Q C hl w => ?_) (fun h hl => en_oks_c en_ok_i (en_oks_t (en_oks_t h))) k
  obtain ⟨h1, h2, h3⟩ := en_dec C hc
  simp only [en_gd, Bool.and_eq_true, beq_iff_eq, decide_eq_true_eq] at h3
  obtain ⟨-, rfl⟩ := h3
  subst h2
  exact lv_iand C.1 C.2.1 h1 w
theorem en_s_ior {x y : Int32} (hc : μ.2.2.2.2.2.2 pc = some (.ior, len, nx, a, b, v))  (k : en_W G d mc ms μ r cs' ρ' σ' bc bs nx ls (.inl (x ||| y) :: st) cs ρ σ) : en_W G d mc ms μ r cs' ρ' σ' bc bs pc ls (.inl y :: .inl x :: st) cs ρ σ := by
  refine en_go (fun p e s m args below meth c H locs cells slots la Q C hl w => ?_) (fun h hl => en_oks_c en_ok_i (en_oks_t (en_oks_t h))) k
  obtain ⟨h1, h2, h3⟩ := en_dec C hc
  simp only [en_gd, Bool.and_eq_true, beq_iff_eq, decide_eq_true_eq] at h3
  obtain ⟨-, rfl⟩ := h3
  subst h2
  exact lv_ior C.1 C.2.1 h1 w
theorem en_s_ixor {x y : Int32} (hc : μ.2.2.2.2.2.2 pc = some (.ixor, len, nx, a, b, v))  (k : en_W G d mc ms μ r cs' ρ' σ' bc bs nx ls (.inl (x ^^^ y) :: st) cs ρ σ) : en_W G d mc ms μ r cs' ρ' σ' bc bs pc ls (.inl y :: .inl x :: st) cs ρ σ := by
  refine en_go (fun p e s m args below meth c H locs cells slots la Q C hl w => ?_) (fun h hl => en_oks_c en_ok_i (en_oks_t (en_oks_t h))) k
  obtain ⟨h1, h2, h3⟩ := en_dec C hc
  simp only [en_gd, Bool.and_eq_true, beq_iff_eq, decide_eq_true_eq] at h3
  obtain ⟨-, rfl⟩ := h3
  subst h2
  exact lv_ixor C.1 C.2.1 h1 w
theorem en_s_ishl {x y : Int32} (hc : μ.2.2.2.2.2.2 pc = some (.ishl, len, nx, a, b, v))  (k : en_W G d mc ms μ r cs' ρ' σ' bc bs nx ls (.inl (x <<< (y &&& 31)) :: st) cs ρ σ) : en_W G d mc ms μ r cs' ρ' σ' bc bs pc ls (.inl y :: .inl x :: st) cs ρ σ := by
  refine en_go (fun p e s m args below meth c H locs cells slots la Q C hl w => ?_) (fun h hl => en_oks_c en_ok_i (en_oks_t (en_oks_t h))) k
  obtain ⟨h1, h2, h3⟩ := en_dec C hc
  simp only [en_gd, Bool.and_eq_true, beq_iff_eq, decide_eq_true_eq] at h3
  obtain ⟨-, rfl⟩ := h3
  subst h2
  exact lv_ishl C.1 C.2.1 h1 w
theorem en_s_ishr {x y : Int32} (hc : μ.2.2.2.2.2.2 pc = some (.ishr, len, nx, a, b, v))  (k : en_W G d mc ms μ r cs' ρ' σ' bc bs nx ls (.inl (x >>> (y &&& 31)) :: st) cs ρ σ) : en_W G d mc ms μ r cs' ρ' σ' bc bs pc ls (.inl y :: .inl x :: st) cs ρ σ := by
  refine en_go (fun p e s m args below meth c H locs cells slots la Q C hl w => ?_) (fun h hl => en_oks_c en_ok_i (en_oks_t (en_oks_t h))) k
  obtain ⟨h1, h2, h3⟩ := en_dec C hc
  simp only [en_gd, Bool.and_eq_true, beq_iff_eq, decide_eq_true_eq] at h3
  obtain ⟨-, rfl⟩ := h3
  subst h2
  exact lv_ishr C.1 C.2.1 h1 w
theorem en_s_iushr {x y : Int32} (hc : μ.2.2.2.2.2.2 pc = some (.iushr, len, nx, a, b, v))  (k : en_W G d mc ms μ r cs' ρ' σ' bc bs nx ls (.inl ((x.toUInt32 >>> (y.toUInt32 &&& Int32.toUInt32 31)).toInt32) :: st) cs ρ σ) : en_W G d mc ms μ r cs' ρ' σ' bc bs pc ls (.inl y :: .inl x :: st) cs ρ σ := by
  refine en_go (fun p e s m args below meth c H locs cells slots la Q C hl w => ?_) (fun h hl => en_oks_c en_ok_i (en_oks_t (en_oks_t h))) k
  obtain ⟨h1, h2, h3⟩ := en_dec C hc
  simp only [en_gd, Bool.and_eq_true, beq_iff_eq, decide_eq_true_eq] at h3
  obtain ⟨-, rfl⟩ := h3
  subst h2
  exact lv_iushr C.1 C.2.1 h1 rfl w
theorem en_s_idiv {x y : Int32} (hc : μ.2.2.2.2.2.2 pc = some (.idiv, len, nx, a, b, v)) (hz : ¬ y = 0) (k : en_W G d mc ms μ r cs' ρ' σ' bc bs nx ls (.inl (x / y) :: st) cs ρ σ) : en_W G d mc ms μ r cs' ρ' σ' bc bs pc ls (.inl y :: .inl x :: st) cs ρ σ := by
  refine en_go (fun p e s m args below meth c H locs cells slots la Q C hl w => ?_) (fun h hl => en_oks_c en_ok_i (en_oks_t (en_oks_t h))) k
  obtain ⟨h1, h2, h3⟩ := en_dec C hc
  simp only [en_gd, Bool.and_eq_true, beq_iff_eq, decide_eq_true_eq] at h3
  obtain ⟨-, rfl⟩ := h3
  subst h2
  exact lv_idiv C.1 C.2.1 h1 hz w
theorem en_s_irem {x y : Int32} (hc : μ.2.2.2.2.2.2 pc = some (.irem, len, nx, a, b, v)) (hz : ¬ y = 0) (k : en_W G d mc ms μ r cs' ρ' σ' bc bs nx ls (.inl (x - x / y * y) :: st) cs ρ σ) : en_W G d mc ms μ r cs' ρ' σ' bc bs pc ls (.inl y :: .inl x :: st) cs ρ σ := by
  refine en_go (fun p e s m args below meth c H locs cells slots la Q C hl w => ?_) (fun h hl => en_oks_c en_ok_i (en_oks_t (en_oks_t h))) k
  obtain ⟨h1, h2, h3⟩ := en_dec C hc
  simp only [en_gd, Bool.and_eq_true, beq_iff_eq, decide_eq_true_eq] at h3
  obtain ⟨-, rfl⟩ := h3
  subst h2
  exact lv_irem C.1 C.2.1 h1 hz w
theorem en_s_ineg {x : Int32} (hc : μ.2.2.2.2.2.2 pc = some (.ineg, len, nx, a, b, v))  (k : en_W G d mc ms μ r cs' ρ' σ' bc bs nx ls (.inl (-x) :: st) cs ρ σ) : en_W G d mc ms μ r cs' ρ' σ' bc bs pc ls (.inl x :: st) cs ρ σ := by
  refine en_go (fun p e s m args below meth c H locs cells slots la Q C hl w => ?_) (fun h hl => en_oks_c en_ok_i (en_oks_t h)) k
  obtain ⟨h1, h2, h3⟩ := en_dec C hc
  simp only [en_gd, Bool.and_eq_true, beq_iff_eq, decide_eq_true_eq] at h3
  obtain ⟨-, rfl⟩ := h3
  subst h2
  exact lv_ineg C.1 C.2.1 h1 w
theorem en_s_i2b {x : Int32} (hc : μ.2.2.2.2.2.2 pc = some (.i2b, len, nx, a, b, v))  (k : en_W G d mc ms μ r cs' ρ' σ' bc bs nx ls (.inl x.toInt8.toInt32 :: st) cs ρ σ) : en_W G d mc ms μ r cs' ρ' σ' bc bs pc ls (.inl x :: st) cs ρ σ := by
  refine en_go (fun p e s m args below meth c H locs cells slots la Q C hl w => ?_) (fun h hl => en_oks_c en_ok_i (en_oks_t h)) k
  obtain ⟨h1, h2, h3⟩ := en_dec C hc
  simp only [en_gd, Bool.and_eq_true, beq_iff_eq, decide_eq_true_eq] at h3
  obtain ⟨-, rfl⟩ := h3
  subst h2
  exact lv_i2b C.1 C.2.1 h1 rfl w
theorem en_s_i2l {x : Int32} (hc : μ.2.2.2.2.2.2 pc = some (.i2l, len, nx, a, b, v))  (k : en_W G d mc ms μ r cs' ρ' σ' bc bs nx ls (.inr (.inr (.inl x)) :: st) cs ρ σ) : en_W G d mc ms μ r cs' ρ' σ' bc bs pc ls (.inl x :: st) cs ρ σ := by
  refine en_go (fun p e s m args below meth c H locs cells slots la Q C hl w => ?_) (fun h hl => en_oks_c en_ok_j (en_oks_t h)) k
  obtain ⟨h1, h2, h3⟩ := en_dec C hc
  simp only [en_gd, Bool.and_eq_true, beq_iff_eq, decide_eq_true_eq] at h3
  obtain ⟨-, rfl⟩ := h3
  subst h2
  exact lv_i2l C.1 C.2.1 h1 rfl w
theorem en_s_iload {i : Nat} {x : Int32} (hc : μ.2.2.2.2.2.2 pc = some (.iload i, len, nx, a, b, v)) (hv : ls[a]? = some (some (.inl x))) (k : en_W G d mc ms μ r cs' ρ' σ' bc bs nx ls (.inl x :: st) cs ρ σ) : en_W G d mc ms μ r cs' ρ' σ' bc bs pc ls (st) cs ρ σ := by
  refine en_go (fun p e s m args below meth c H locs cells slots la Q C hl w => ?_) (fun h hl => en_oks_c en_ok_i h) k
  obtain ⟨h1, h2, h3⟩ := en_dec C hc
  simp only [en_gd, Bool.and_eq_true, beq_iff_eq, decide_eq_true_eq] at h3
  obtain ⟨-, rfl, h4⟩ := h3
  subst h2
  exact lv_iload C.1 C.2.1 h1 (hl.2.2 _ _ (h4 ▸ hv)).1 w
theorem en_s_iload_n {i : Fin 4} {x : Int32} (hc : μ.2.2.2.2.2.2 pc = some (.iload_n i, len, nx, a, b, v)) (hv : ls[a]? = some (some (.inl x))) (k : en_W G d mc ms μ r cs' ρ' σ' bc bs nx ls (.inl x :: st) cs ρ σ) : en_W G d mc ms μ r cs' ρ' σ' bc bs pc ls (st) cs ρ σ := by
  refine en_go (fun p e s m args below meth c H locs cells slots la Q C hl w => ?_) (fun h hl => en_oks_c en_ok_i h) k
  obtain ⟨h1, h2, h3⟩ := en_dec C hc
  simp only [en_gd, Bool.and_eq_true, beq_iff_eq, decide_eq_true_eq] at h3
  obtain ⟨-, rfl, h4⟩ := h3
  subst h2
  exact lv_iload_n C.1 C.2.1 h1 h4 (hl.2.2 _ _ hv).1 w
theorem en_s_aload {i : Nat} {c : en_A} (hc : μ.2.2.2.2.2.2 pc = some (.aload i, len, nx, a, b, v)) (hv : ls[a]? = some (some (.inr (.inl (some c))))) (k : en_W G d mc ms μ r cs' ρ' σ' bc bs nx ls (.inr (.inl (some c)) :: st) cs ρ σ) : en_W G d mc ms μ r cs' ρ' σ' bc bs pc ls (st) cs ρ σ := by
  refine en_go (fun p e s m args below meth c H locs cells slots la Q C hl w => ?_) (fun h hl => en_oks_c (hl _ _ hv) h) k
  obtain ⟨h1, h2, h3⟩ := en_dec C hc
  simp only [en_gd, Bool.and_eq_true, beq_iff_eq, decide_eq_true_eq] at h3
  obtain ⟨-, rfl, h4⟩ := h3
  subst h2
  exact lv_aload C.1 C.2.1 h1 (hl.2.2 _ _ (h4 ▸ hv)).1 w
theorem en_s_aload_n {i : Fin 4} {c : en_A} (hc : μ.2.2.2.2.2.2 pc = some (.aload_n i, len, nx, a, b, v)) (hv : ls[a]? = some (some (.inr (.inl (some c))))) (k : en_W G d mc ms μ r cs' ρ' σ' bc bs nx ls (.inr (.inl (some c)) :: st) cs ρ σ) : en_W G d mc ms μ r cs' ρ' σ' bc bs pc ls (st) cs ρ σ := by
  refine en_go (fun p e s m args below meth c H locs cells slots la Q C hl w => ?_) (fun h hl => en_oks_c (hl _ _ hv) h) k
  obtain ⟨h1, h2, h3⟩ := en_dec C hc
  simp only [en_gd, Bool.and_eq_true, beq_iff_eq, decide_eq_true_eq] at h3
  obtain ⟨-, rfl, h4⟩ := h3
  subst h2
  exact lv_aload_n C.1 C.2.1 h1 h4 (hl.2.2 _ _ hv).1 w
theorem en_s_aloadX {i : Nat} {kx : Nat} (hc : μ.2.2.2.2.2.2 pc = some (.aload i, len, nx, a, b, v)) (hv : ls[a]? = some (some (.inr (.inr (.inr kx))))) (k : en_W G d mc ms μ r cs' ρ' σ' bc bs nx ls (.inr (.inr (.inr kx)) :: st) cs ρ σ) : en_W G d mc ms μ r cs' ρ' σ' bc bs pc ls (st) cs ρ σ := by
  refine en_go (fun p e s m args below meth c H locs cells slots la Q C hl w => ?_) (fun h hl => en_oks_c en_ok_x h) k
  obtain ⟨h1, h2, h3⟩ := en_dec C hc
  simp only [en_gd, Bool.and_eq_true, beq_iff_eq, decide_eq_true_eq] at h3
  obtain ⟨-, rfl, h4⟩ := h3
  subst h2
  exact lv_aload C.1 C.2.1 h1 (hl.2.2 _ _ (h4 ▸ hv)).1 w
theorem en_s_aload_nX {i : Fin 4} {kx : Nat} (hc : μ.2.2.2.2.2.2 pc = some (.aload_n i, len, nx, a, b, v)) (hv : ls[a]? = some (some (.inr (.inr (.inr kx))))) (k : en_W G d mc ms μ r cs' ρ' σ' bc bs nx ls (.inr (.inr (.inr kx)) :: st) cs ρ σ) : en_W G d mc ms μ r cs' ρ' σ' bc bs pc ls (st) cs ρ σ := by
  refine en_go (fun p e s m args below meth c H locs cells slots la Q C hl w => ?_) (fun h hl => en_oks_c en_ok_x h) k
  obtain ⟨h1, h2, h3⟩ := en_dec C hc
  simp only [en_gd, Bool.and_eq_true, beq_iff_eq, decide_eq_true_eq] at h3
  obtain ⟨-, rfl, h4⟩ := h3
  subst h2
  exact lv_aload_n C.1 C.2.1 h1 h4 (hl.2.2 _ _ hv).1 w
theorem en_s_aloadN {i : Nat} (hc : μ.2.2.2.2.2.2 pc = some (.aload i, len, nx, a, b, v)) (hv : ls[a]? = some (some (.inr (.inl none)))) (k : en_W G d mc ms μ r cs' ρ' σ' bc bs nx ls (.inr (.inl none) :: st) cs ρ σ) : en_W G d mc ms μ r cs' ρ' σ' bc bs pc ls (st) cs ρ σ := by
  refine en_go (fun p e s m args below meth c H locs cells slots la Q C hl w => ?_) (fun h hl => en_oks_c en_ok_n h) k
  obtain ⟨h1, h2, h3⟩ := en_dec C hc
  simp only [en_gd, Bool.and_eq_true, beq_iff_eq, decide_eq_true_eq] at h3
  obtain ⟨-, rfl, h4⟩ := h3
  subst h2
  exact lv_aloadN C.1 C.2.1 h1 (hl.2.2 _ _ (h4 ▸ hv)).1 w
theorem en_s_aload_nN {i : Fin 4} (hc : μ.2.2.2.2.2.2 pc = some (.aload_n i, len, nx, a, b, v)) (hv : ls[a]? = some (some (.inr (.inl none)))) (k : en_W G d mc ms μ r cs' ρ' σ' bc bs nx ls (.inr (.inl none) :: st) cs ρ σ) : en_W G d mc ms μ r cs' ρ' σ' bc bs pc ls (st) cs ρ σ := by
  refine en_go (fun p e s m args below meth c H locs cells slots la Q C hl w => ?_) (fun h hl => en_oks_c en_ok_n h) k
  obtain ⟨h1, h2, h3⟩ := en_dec C hc
  simp only [en_gd, Bool.and_eq_true, beq_iff_eq, decide_eq_true_eq] at h3
  obtain ⟨-, rfl, h4⟩ := h3
  subst h2
  exact lv_aload_nN C.1 C.2.1 h1 h4 (hl.2.2 _ _ hv).1 w
theorem en_s_null  (hc : μ.2.2.2.2.2.2 pc = some (.aconst_null, len, nx, a, b, v))  (k : en_W G d mc ms μ r cs' ρ' σ' bc bs nx ls (.inr (.inl none) :: st) cs ρ σ) : en_W G d mc ms μ r cs' ρ' σ' bc bs pc ls (st) cs ρ σ := by
  refine en_go (fun p e s m args below meth c H locs cells slots la Q C hl w => ?_) (fun h hl => en_oks_c en_ok_n h) k
  obtain ⟨h1, h2, h3⟩ := en_dec C hc
  simp only [en_gd, Bool.and_eq_true, beq_iff_eq, decide_eq_true_eq] at h3
  obtain ⟨-, rfl⟩ := h3
  subst h2
  exact lv_null C.1 C.2.1 h1 w
def en_c1 (v : en_V) : Bool := match v with | .inr (.inr (.inl _)) => false | _ => true
theorem en_c1_cat {v : en_V} (h : en_c1 v = true) : (en_tr G v).category = 1 := by
  rcases v with x | (_ | c) | x | k <;> first | rfl | cases h
theorem en_s_dup {w1 : en_V} (hc : μ.2.2.2.2.2.2 pc = some (.dup, len, nx, a, b, v)) (q1 : en_c1 w1 = true) (k : en_W G d mc ms μ r cs' ρ' σ' bc bs nx ls (w1 :: w1 :: st) cs ρ σ) : en_W G d mc ms μ r cs' ρ' σ' bc bs pc ls (w1 :: st) cs ρ σ := by
  refine en_go (fun p e s m args below meth c H locs cells slots la Q C hl w => ?_) (fun h hl => en_oks_c (en_oks_h h) h) k
  obtain ⟨h1, h2, h3⟩ := en_dec C hc
  simp only [en_gd, Bool.and_eq_true, beq_iff_eq, decide_eq_true_eq] at h3
  obtain ⟨-, rfl⟩ := h3
  subst h2
  exact lv_dup C.1 C.2.1 h1 (en_c1_cat q1) w
theorem en_s_pop {w1 : en_V} (hc : μ.2.2.2.2.2.2 pc = some (.pop, len, nx, a, b, v)) (q1 : en_c1 w1 = true) (k : en_W G d mc ms μ r cs' ρ' σ' bc bs nx ls (st) cs ρ σ) : en_W G d mc ms μ r cs' ρ' σ' bc bs pc ls (w1 :: st) cs ρ σ := by
  refine en_go (fun p e s m args below meth c H locs cells slots la Q C hl w => ?_) (fun h hl => en_oks_t h) k
  obtain ⟨h1, h2, h3⟩ := en_dec C hc
  simp only [en_gd, Bool.and_eq_true, beq_iff_eq, decide_eq_true_eq] at h3
  obtain ⟨-, rfl⟩ := h3
  subst h2
  exact lv_pop C.1 C.2.1 h1 (en_c1_cat q1) w
theorem en_s_dup_x1 {w1 w2 : en_V} (hc : μ.2.2.2.2.2.2 pc = some (.dup_x1, len, nx, a, b, v)) (q1 : en_c1 w1 = true) (q2 : en_c1 w2 = true) (k : en_W G d mc ms μ r cs' ρ' σ' bc bs nx ls (w1 :: w2 :: w1 :: st) cs ρ σ) : en_W G d mc ms μ r cs' ρ' σ' bc bs pc ls (w1 :: w2 :: st) cs ρ σ := by
  refine en_go (fun p e s m args below meth c H locs cells slots la Q C hl w => ?_) (fun h hl => en_oks_c (en_oks_h h) (en_oks_c (en_oks_h (en_oks_t h)) (en_oks_c (en_oks_h h) (en_oks_t (en_oks_t h))))) k
  obtain ⟨h1, h2, h3⟩ := en_dec C hc
  simp only [en_gd, Bool.and_eq_true, beq_iff_eq, decide_eq_true_eq] at h3
  obtain ⟨-, rfl⟩ := h3
  subst h2
  exact lv_dup_x1 C.1 C.2.1 h1 (en_c1_cat q1) (en_c1_cat q2) w
theorem en_s_dup_x2 {w1 w2 w3 : en_V} (hc : μ.2.2.2.2.2.2 pc = some (.dup_x2, len, nx, a, b, v)) (q1 : en_c1 w1 = true) (q2 : en_c1 w2 = true) (q3 : en_c1 w3 = true) (k : en_W G d mc ms μ r cs' ρ' σ' bc bs nx ls (w1 :: w2 :: w3 :: w1 :: st) cs ρ σ) : en_W G d mc ms μ r cs' ρ' σ' bc bs pc ls (w1 :: w2 :: w3 :: st) cs ρ σ := by
  refine en_go (fun p e s m args below meth c H locs cells slots la Q C hl w => ?_) (fun h hl => en_oks_c (en_oks_h h) (en_oks_c (en_oks_h (en_oks_t h)) (en_oks_c (en_oks_h (en_oks_t (en_oks_t h))) (en_oks_c (en_oks_h h) (en_oks_t (en_oks_t (en_oks_t h))))))) k
  obtain ⟨h1, h2, h3⟩ := en_dec C hc
  simp only [en_gd, Bool.and_eq_true, beq_iff_eq, decide_eq_true_eq] at h3
  obtain ⟨-, rfl⟩ := h3
  subst h2
  exact lv_dup_x2 C.1 C.2.1 h1 (en_c1_cat q1) (en_c1_cat q2) (en_c1_cat q3) w
theorem en_s_dup2 {w1 w2 : en_V} (hc : μ.2.2.2.2.2.2 pc = some (.dup2, len, nx, a, b, v)) (q1 : en_c1 w1 = true) (q2 : en_c1 w2 = true) (k : en_W G d mc ms μ r cs' ρ' σ' bc bs nx ls (w1 :: w2 :: w1 :: w2 :: st) cs ρ σ) : en_W G d mc ms μ r cs' ρ' σ' bc bs pc ls (w1 :: w2 :: st) cs ρ σ := by
  refine en_go (fun p e s m args below meth c H locs cells slots la Q C hl w => ?_) (fun h hl => en_oks_c (en_oks_h h) (en_oks_c (en_oks_h (en_oks_t h)) h)) k
  obtain ⟨h1, h2, h3⟩ := en_dec C hc
  simp only [en_gd, Bool.and_eq_true, beq_iff_eq, decide_eq_true_eq] at h3
  obtain ⟨-, rfl⟩ := h3
  subst h2
  exact lv_dup2_11 C.1 C.2.1 h1 (en_c1_cat q1) (en_c1_cat q2) w
theorem en_s_goto {off : Int} (hc : μ.2.2.2.2.2.2 pc = some (.goto off, len, nx, a, b, v)) (k : en_W G d mc ms μ r cs' ρ' σ' bc bs a ls st cs ρ σ) : en_W G d mc ms μ r cs' ρ' σ' bc bs pc ls st cs ρ σ := by
  refine en_go (fun p e s m args below meth c H locs cells slots la Q C hl w => ?_) (fun h _ => h) k
  obtain ⟨h1, h2, h3⟩ := en_dec C hc
  simp only [en_gd, Bool.and_eq_true, beq_iff_eq, decide_eq_true_eq] at h3
  obtain ⟨-, rfl, h4⟩ := h3
  exact lv_goto C.1 C.2.1 h1 h4 w
theorem en_s_icmp_eq {off : Int} {x y : Int32} (hc : μ.2.2.2.2.2.2 pc = some (.if_icmp .eq off, len, nx, a, b, v)) (kt : x = y → en_W G d mc ms μ r cs' ρ' σ' bc bs a ls st cs ρ σ) (kf : ¬ (x = y) → en_W G d mc ms μ r cs' ρ' σ' bc bs nx ls st cs ρ σ) : en_W G d mc ms μ r cs' ρ' σ' bc bs pc ls (.inl y :: .inl x :: st) cs ρ σ := by
  intro p e s m args below meth c H locs cells slots la C hS hw hbc hbs hl hst
  obtain ⟨h1, h2, h3⟩ := en_dec C hc
  simp only [en_gd, Bool.and_eq_true, beq_iff_eq, decide_eq_true_eq] at h3
  obtain ⟨-, rfl, h4⟩ := h3
  subst h2
  exact lv_icmp_eq C.1 C.2.1 h1 h4 (fun hq => kt hq p e s m args below meth c H locs cells slots la C hS hw hbc hbs hl (en_oks_t (en_oks_t hst))) (fun hq => kf hq p e s m args below meth c H locs cells slots la C hS hw hbc hbs hl (en_oks_t (en_oks_t hst)))
theorem en_s_icmp_ne {off : Int} {x y : Int32} (hc : μ.2.2.2.2.2.2 pc = some (.if_icmp .ne off, len, nx, a, b, v)) (kt : ¬ x = y → en_W G d mc ms μ r cs' ρ' σ' bc bs a ls st cs ρ σ) (kf : x = y → en_W G d mc ms μ r cs' ρ' σ' bc bs nx ls st cs ρ σ) : en_W G d mc ms μ r cs' ρ' σ' bc bs pc ls (.inl y :: .inl x :: st) cs ρ σ := by
  intro p e s m args below meth c H locs cells slots la C hS hw hbc hbs hl hst
  obtain ⟨h1, h2, h3⟩ := en_dec C hc
  simp only [en_gd, Bool.and_eq_true, beq_iff_eq, decide_eq_true_eq] at h3
  obtain ⟨-, rfl, h4⟩ := h3
  subst h2
  exact lv_icmp_ne C.1 C.2.1 h1 h4 (fun hq => kt hq p e s m args below meth c H locs cells slots la C hS hw hbc hbs hl (en_oks_t (en_oks_t hst))) (fun hq => kf hq p e s m args below meth c H locs cells slots la C hS hw hbc hbs hl (en_oks_t (en_oks_t hst)))
theorem en_s_icmp_lt {off : Int} {x y : Int32} (hc : μ.2.2.2.2.2.2 pc = some (.if_icmp .lt off, len, nx, a, b, v)) (kt : x < y → en_W G d mc ms μ r cs' ρ' σ' bc bs a ls st cs ρ σ) (kf : ¬ (x < y) → en_W G d mc ms μ r cs' ρ' σ' bc bs nx ls st cs ρ σ) : en_W G d mc ms μ r cs' ρ' σ' bc bs pc ls (.inl y :: .inl x :: st) cs ρ σ := by
  intro p e s m args below meth c H locs cells slots la C hS hw hbc hbs hl hst
  obtain ⟨h1, h2, h3⟩ := en_dec C hc
  simp only [en_gd, Bool.and_eq_true, beq_iff_eq, decide_eq_true_eq] at h3
  obtain ⟨-, rfl, h4⟩ := h3
  subst h2
  exact lv_icmp_lt C.1 C.2.1 h1 h4 (fun hq => kt hq p e s m args below meth c H locs cells slots la C hS hw hbc hbs hl (en_oks_t (en_oks_t hst))) (fun hq => kf hq p e s m args below meth c H locs cells slots la C hS hw hbc hbs hl (en_oks_t (en_oks_t hst)))
theorem en_s_icmp_ge {off : Int} {x y : Int32} (hc : μ.2.2.2.2.2.2 pc = some (.if_icmp .ge off, len, nx, a, b, v)) (kt : y ≤ x → en_W G d mc ms μ r cs' ρ' σ' bc bs a ls st cs ρ σ) (kf : ¬ (y ≤ x) → en_W G d mc ms μ r cs' ρ' σ' bc bs nx ls st cs ρ σ) : en_W G d mc ms μ r cs' ρ' σ' bc bs pc ls (.inl y :: .inl x :: st) cs ρ σ := by
  intro p e s m args below meth c H locs cells slots la C hS hw hbc hbs hl hst
  obtain ⟨h1, h2, h3⟩ := en_dec C hc
  simp only [en_gd, Bool.and_eq_true, beq_iff_eq, decide_eq_true_eq] at h3
  obtain ⟨-, rfl, h4⟩ := h3
  subst h2
  exact lv_icmp_ge C.1 C.2.1 h1 h4 (fun hq => kt hq p e s m args below meth c H locs cells slots la C hS hw hbc hbs hl (en_oks_t (en_oks_t hst))) (fun hq => kf hq p e s m args below meth c H locs cells slots la C hS hw hbc hbs hl (en_oks_t (en_oks_t hst)))
theorem en_s_icmp_gt {off : Int} {x y : Int32} (hc : μ.2.2.2.2.2.2 pc = some (.if_icmp .gt off, len, nx, a, b, v)) (kt : y < x → en_W G d mc ms μ r cs' ρ' σ' bc bs a ls st cs ρ σ) (kf : ¬ (y < x) → en_W G d mc ms μ r cs' ρ' σ' bc bs nx ls st cs ρ σ) : en_W G d mc ms μ r cs' ρ' σ' bc bs pc ls (.inl y :: .inl x :: st) cs ρ σ := by
  intro p e s m args below meth c H locs cells slots la C hS hw hbc hbs hl hst
  obtain ⟨h1, h2, h3⟩ := en_dec C hc
  simp only [en_gd, Bool.and_eq_true, beq_iff_eq, decide_eq_true_eq] at h3
  obtain ⟨-, rfl, h4⟩ := h3
  subst h2
  exact lv_icmp_gt C.1 C.2.1 h1 h4 (fun hq => kt hq p e s m args below meth c H locs cells slots la C hS hw hbc hbs hl (en_oks_t (en_oks_t hst))) (fun hq => kf hq p e s m args below meth c H locs cells slots la C hS hw hbc hbs hl (en_oks_t (en_oks_t hst)))
theorem en_s_icmp_le {off : Int} {x y : Int32} (hc : μ.2.2.2.2.2.2 pc = some (.if_icmp .le off, len, nx, a, b, v)) (kt : x ≤ y → en_W G d mc ms μ r cs' ρ' σ' bc bs a ls st cs ρ σ) (kf : ¬ (x ≤ y) → en_W G d mc ms μ r cs' ρ' σ' bc bs nx ls st cs ρ σ) : en_W G d mc ms μ r cs' ρ' σ' bc bs pc ls (.inl y :: .inl x :: st) cs ρ σ := by
  intro p e s m args below meth c H locs cells slots la C hS hw hbc hbs hl hst
  obtain ⟨h1, h2, h3⟩ := en_dec C hc
  simp only [en_gd, Bool.and_eq_true, beq_iff_eq, decide_eq_true_eq] at h3
  obtain ⟨-, rfl, h4⟩ := h3
  subst h2
  exact lv_icmp_le C.1 C.2.1 h1 h4 (fun hq => kt hq p e s m args below meth c H locs cells slots la C hS hw hbc hbs hl (en_oks_t (en_oks_t hst))) (fun hq => kf hq p e s m args below meth c H locs cells slots la C hS hw hbc hbs hl (en_oks_t (en_oks_t hst)))
theorem en_s_if_eq {off : Int} {x : Int32} (hc : μ.2.2.2.2.2.2 pc = some (.ifCond .eq off, len, nx, a, b, v)) (kt : x = 0 → en_W G d mc ms μ r cs' ρ' σ' bc bs a ls st cs ρ σ) (kf : ¬ (x = 0) → en_W G d mc ms μ r cs' ρ' σ' bc bs nx ls st cs ρ σ) : en_W G d mc ms μ r cs' ρ' σ' bc bs pc ls (.inl x :: st) cs ρ σ := by
  intro p e s m args below meth c H locs cells slots la C hS hw hbc hbs hl hst
  obtain ⟨h1, h2, h3⟩ := en_dec C hc
  simp only [en_gd, Bool.and_eq_true, beq_iff_eq, decide_eq_true_eq] at h3
  obtain ⟨-, rfl, h4⟩ := h3
  subst h2
  exact lv_if_eq C.1 C.2.1 h1 h4 (fun hq => kt hq p e s m args below meth c H locs cells slots la C hS hw hbc hbs hl (en_oks_t hst)) (fun hq => kf hq p e s m args below meth c H locs cells slots la C hS hw hbc hbs hl (en_oks_t hst))
theorem en_s_if_ne {off : Int} {x : Int32} (hc : μ.2.2.2.2.2.2 pc = some (.ifCond .ne off, len, nx, a, b, v)) (kt : ¬ x = 0 → en_W G d mc ms μ r cs' ρ' σ' bc bs a ls st cs ρ σ) (kf : x = 0 → en_W G d mc ms μ r cs' ρ' σ' bc bs nx ls st cs ρ σ) : en_W G d mc ms μ r cs' ρ' σ' bc bs pc ls (.inl x :: st) cs ρ σ := by
  intro p e s m args below meth c H locs cells slots la C hS hw hbc hbs hl hst
  obtain ⟨h1, h2, h3⟩ := en_dec C hc
  simp only [en_gd, Bool.and_eq_true, beq_iff_eq, decide_eq_true_eq] at h3
  obtain ⟨-, rfl, h4⟩ := h3
  subst h2
  exact lv_if_ne C.1 C.2.1 h1 h4 (fun hq => kt hq p e s m args below meth c H locs cells slots la C hS hw hbc hbs hl (en_oks_t hst)) (fun hq => kf hq p e s m args below meth c H locs cells slots la C hS hw hbc hbs hl (en_oks_t hst))
theorem en_s_if_lt {off : Int} {x : Int32} (hc : μ.2.2.2.2.2.2 pc = some (.ifCond .lt off, len, nx, a, b, v)) (kt : x < 0 → en_W G d mc ms μ r cs' ρ' σ' bc bs a ls st cs ρ σ) (kf : ¬ (x < 0) → en_W G d mc ms μ r cs' ρ' σ' bc bs nx ls st cs ρ σ) : en_W G d mc ms μ r cs' ρ' σ' bc bs pc ls (.inl x :: st) cs ρ σ := by
  intro p e s m args below meth c H locs cells slots la C hS hw hbc hbs hl hst
  obtain ⟨h1, h2, h3⟩ := en_dec C hc
  simp only [en_gd, Bool.and_eq_true, beq_iff_eq, decide_eq_true_eq] at h3
  obtain ⟨-, rfl, h4⟩ := h3
  subst h2
  exact lv_if_lt C.1 C.2.1 h1 h4 (fun hq => kt hq p e s m args below meth c H locs cells slots la C hS hw hbc hbs hl (en_oks_t hst)) (fun hq => kf hq p e s m args below meth c H locs cells slots la C hS hw hbc hbs hl (en_oks_t hst))
theorem en_s_if_ge {off : Int} {x : Int32} (hc : μ.2.2.2.2.2.2 pc = some (.ifCond .ge off, len, nx, a, b, v)) (kt : 0 ≤ x → en_W G d mc ms μ r cs' ρ' σ' bc bs a ls st cs ρ σ) (kf : ¬ (0 ≤ x) → en_W G d mc ms μ r cs' ρ' σ' bc bs nx ls st cs ρ σ) : en_W G d mc ms μ r cs' ρ' σ' bc bs pc ls (.inl x :: st) cs ρ σ := by
  intro p e s m args below meth c H locs cells slots la C hS hw hbc hbs hl hst
  obtain ⟨h1, h2, h3⟩ := en_dec C hc
  simp only [en_gd, Bool.and_eq_true, beq_iff_eq, decide_eq_true_eq] at h3
  obtain ⟨-, rfl, h4⟩ := h3
  subst h2
  exact lv_if_ge C.1 C.2.1 h1 h4 (fun hq => kt hq p e s m args below meth c H locs cells slots la C hS hw hbc hbs hl (en_oks_t hst)) (fun hq => kf hq p e s m args below meth c H locs cells slots la C hS hw hbc hbs hl (en_oks_t hst))
theorem en_s_if_gt {off : Int} {x : Int32} (hc : μ.2.2.2.2.2.2 pc = some (.ifCond .gt off, len, nx, a, b, v)) (kt : 0 < x → en_W G d mc ms μ r cs' ρ' σ' bc bs a ls st cs ρ σ) (kf : ¬ (0 < x) → en_W G d mc ms μ r cs' ρ' σ' bc bs nx ls st cs ρ σ) : en_W G d mc ms μ r cs' ρ' σ' bc bs pc ls (.inl x :: st) cs ρ σ := by
  intro p e s m args below meth c H locs cells slots la C hS hw hbc hbs hl hst
  obtain ⟨h1, h2, h3⟩ := en_dec C hc
  simp only [en_gd, Bool.and_eq_true, beq_iff_eq, decide_eq_true_eq] at h3
  obtain ⟨-, rfl, h4⟩ := h3
  subst h2
  exact lv_if_gt C.1 C.2.1 h1 h4 (fun hq => kt hq p e s m args below meth c H locs cells slots la C hS hw hbc hbs hl (en_oks_t hst)) (fun hq => kf hq p e s m args below meth c H locs cells slots la C hS hw hbc hbs hl (en_oks_t hst))
theorem en_s_if_le {off : Int} {x : Int32} (hc : μ.2.2.2.2.2.2 pc = some (.ifCond .le off, len, nx, a, b, v)) (kt : x ≤ 0 → en_W G d mc ms μ r cs' ρ' σ' bc bs a ls st cs ρ σ) (kf : ¬ (x ≤ 0) → en_W G d mc ms μ r cs' ρ' σ' bc bs nx ls st cs ρ σ) : en_W G d mc ms μ r cs' ρ' σ' bc bs pc ls (.inl x :: st) cs ρ σ := by
  intro p e s m args below meth c H locs cells slots la C hS hw hbc hbs hl hst
  obtain ⟨h1, h2, h3⟩ := en_dec C hc
  simp only [en_gd, Bool.and_eq_true, beq_iff_eq, decide_eq_true_eq] at h3
  obtain ⟨-, rfl, h4⟩ := h3
  subst h2
  exact lv_if_le C.1 C.2.1 h1 h4 (fun hq => kt hq p e s m args below meth c H locs cells slots la C hS hw hbc hbs hl (en_oks_t hst)) (fun hq => kf hq p e s m args below meth c H locs cells slots la C hS hw hbc hbs hl (en_oks_t hst))
theorem en_s_ifnull {off : Int} {c : en_A} (hc : μ.2.2.2.2.2.2 pc = some (.ifnull off, len, nx, a, b, v)) (k : en_W G d mc ms μ r cs' ρ' σ' bc bs nx ls st cs ρ σ) : en_W G d mc ms μ r cs' ρ' σ' bc bs pc ls (.inr (.inl (some c)) :: st) cs ρ σ := by
  refine en_go (fun p e s m args below meth c H locs cells slots la Q C hl w => ?_) (fun h _ => en_oks_t h) k
  obtain ⟨h1, h2, h3⟩ := en_dec C hc
  simp only [en_gd, Bool.and_eq_true, beq_iff_eq, decide_eq_true_eq] at h3
  obtain ⟨-, rfl, h4⟩ := h3
  subst h2
  exact lv_ifnull C.1 C.2.1 h1 w
theorem en_s_ifnullN {off : Int}  (hc : μ.2.2.2.2.2.2 pc = some (.ifnull off, len, nx, a, b, v)) (k : en_W G d mc ms μ r cs' ρ' σ' bc bs a ls st cs ρ σ) : en_W G d mc ms μ r cs' ρ' σ' bc bs pc ls (.inr (.inl none) :: st) cs ρ σ := by
  refine en_go (fun p e s m args below meth c H locs cells slots la Q C hl w => ?_) (fun h _ => en_oks_t h) k
  obtain ⟨h1, h2, h3⟩ := en_dec C hc
  simp only [en_gd, Bool.and_eq_true, beq_iff_eq, decide_eq_true_eq] at h3
  obtain ⟨-, rfl, h4⟩ := h3
  subst h2
  exact lv_ifnullN C.1 C.2.1 h1 h4 w
theorem en_s_ifnonnull {off : Int} {c : en_A} (hc : μ.2.2.2.2.2.2 pc = some (.ifnonnull off, len, nx, a, b, v)) (k : en_W G d mc ms μ r cs' ρ' σ' bc bs a ls st cs ρ σ) : en_W G d mc ms μ r cs' ρ' σ' bc bs pc ls (.inr (.inl (some c)) :: st) cs ρ σ := by
  refine en_go (fun p e s m args below meth c H locs cells slots la Q C hl w => ?_) (fun h _ => en_oks_t h) k
  obtain ⟨h1, h2, h3⟩ := en_dec C hc
  simp only [en_gd, Bool.and_eq_true, beq_iff_eq, decide_eq_true_eq] at h3
  obtain ⟨-, rfl, h4⟩ := h3
  subst h2
  exact lv_ifnonnull C.1 C.2.1 h1 h4 w
theorem en_s_ifnonnullN {off : Int}  (hc : μ.2.2.2.2.2.2 pc = some (.ifnonnull off, len, nx, a, b, v)) (k : en_W G d mc ms μ r cs' ρ' σ' bc bs nx ls st cs ρ σ) : en_W G d mc ms μ r cs' ρ' σ' bc bs pc ls (.inr (.inl none) :: st) cs ρ σ := by
  refine en_go (fun p e s m args below meth c H locs cells slots la Q C hl w => ?_) (fun h _ => en_oks_t h) k
  obtain ⟨h1, h2, h3⟩ := en_dec C hc
  simp only [en_gd, Bool.and_eq_true, beq_iff_eq, decide_eq_true_eq] at h3
  obtain ⟨-, rfl, h4⟩ := h3
  subst h2
  exact lv_ifnonnullN C.1 C.2.1 h1 w
end en_rows

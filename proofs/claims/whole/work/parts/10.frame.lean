/-! The frame: a functional picture of the heap, and the judgement bs_J over the kit's W: 'from here the method ends as Φ asks'. -/
/-- a cell: an object (the number of its class in bs_cl, its fields), or an array (length; ints, longs, booleans, references) -/
abbrev bs_E : Type := (Nat × List Value) ⊕ (Nat × ((Nat → Int32) ⊕ (Nat → Int64) ⊕ (Nat → Int32) ⊕ (Nat → Option Nat)))
/-- what is only read: int arrays that were there at the start, and where the row of ticks stands -/
abbrev bs_V : Type := (Nat → Option (Nat × (Nat → Int32))) × Nat
/-- the cells; the size of the heap, where it is known; how many cells and slots may still be made; what is only read -/
abbrev bs_H : Type := (Nat → Option bs_E) × (Option Nat × (Nat × (Nat × bs_V)))
/-- how a method ends: a value, or the name of the class of what was thrown -/
abbrev bs_R : Type := Except String (Option Value)
abbrev bs_D : Type := va_G × (ClassId × ClassId × ClassId × ClassId)
abbrev bs_obj (ci : Nat) (fs : List Value) : bs_E := .inl (ci, fs)
abbrev bs_ia (n : Nat) (f : Nat → Int32) : bs_E := .inr (n, .inl f)
abbrev bs_la (n : Nat) (f : Nat → Int64) : bs_E := .inr (n, .inr (.inl f))
abbrev bs_za (n : Nat) (f : Nat → Int32) : bs_E := .inr (n, .inr (.inr (.inl f)))
abbrev bs_ra (n : Nat) (f : Nat → Option Nat) : bs_E := .inr (n, .inr (.inr (.inr f)))
def bs_cell (D : bs_D) (x : bs_E) : va_E := match x with
  | .inl o => .inr o
  | .inr (n, .inl f) => .inl (D.2.1, n, .inl f)
  | .inr (n, .inr (.inl f)) => .inl (D.2.2.1, n, .inr (.inl f))
  | .inr (n, .inr (.inr (.inl f))) => .inl (D.2.2.2.1, n, .inl f)
  | .inr (n, .inr (.inr (.inr f))) => .inl (D.2.2.2.2, n, .inr (.inr (.inr (.inr f))))
abbrev bs_tys (D : bs_D) : List (ClassId × FieldType) := [(D.2.1, .int), (D.2.2.1, .long), (D.2.2.2.1, .boolean), (D.2.2.2.2, .object "BitShuffler$BitMap")]
def bs_Rep (D : bs_D) (m : Nat → Option bs_E) (H : Heap) : Prop := ∀ (a : Nat) (x : bs_E), m a = some x → va_at D.1 bs_cl (a, bs_cell D x) H
def bs_up (m : Nat → Option bs_E) (a : Nat) (x : bs_E) : Nat → Option bs_E := fun b => if b = a then some x else m b
def bs_set (h : bs_H) (a : Nat) (x : bs_E) : bs_H := (bs_up h.1 a x, h.2)
/-- a new cell at the end, of so many slots -/
def bs_push (h : bs_H) (a k : Nat) (x : bs_E) : bs_H := (bs_up h.1 a x, (some (a + 1), (h.2.2.1 - 1, (h.2.2.2.1 - k, h.2.2.2.2))))
/-- behind a throw: the heap's size is no longer known -/
def bs_thrown (h : bs_H) : bs_H := (h.1, (none, (h.2.2.1 - 1, (h.2.2.2.1 - 6, h.2.2.2.2))))
theorem bs_set_1 (h : bs_H) (a : Nat) (x : bs_E) (b : Nat) : (bs_set h a x).1 b = if b = a then some x else h.1 b := rfl
theorem bs_set_2 (h : bs_H) (a : Nat) (x : bs_E) : (bs_set h a x).2 = h.2 := rfl
theorem bs_push_1 (h : bs_H) (a k : Nat) (x : bs_E) (b : Nat) : (bs_push h a k x).1 b = if b = a then some x else h.1 b := rfl
theorem bs_set_set (h : bs_H) (a : Nat) (x y : bs_E) : bs_set (bs_set h a x) a y = bs_set h a y := by
  unfold bs_set
  congr 1
  funext b
  by_cases hb : b = a <;> simp [bs_up, hb]
theorem bs_set_get {h : bs_H} {a : Nat} {x : bs_E} (hx : h.1 a = some x) : bs_set h a x = h := by
  have e : bs_up h.1 a x = h.1 := by
    funext b
    by_cases hb : b = a
    · subst hb; simp [bs_up, hx]
    · simp [bs_up, hb]
  unfold bs_set
  rw [e]
theorem bs_Rep.put {D : bs_D} {m : Nat → Option bs_E} {H H1 : Heap} {a : Nat} {x : bs_E} (h : bs_Rep D m H) (hx : va_at D.1 bs_cl (a, bs_cell D x) H1) (oq : ∀ (q : Nat) (y : bs_E), m q = some y → q ≠ a → H1[q]? = H[q]?) : bs_Rep D (bs_up m a x) H1 := by
  intro b y hy
  unfold bs_up at hy
  by_cases hb : b = a
  · subst hb
    rw [if_pos rfl] at hy
    cases hy
    exact hx
  · rw [if_neg hb] at hy
    exact (h b y hy).kept (oq b y hy hb)
theorem bs_Rep.kept {D : bs_D} {m : Nat → Option bs_E} {H H1 : Heap} (h : bs_Rep D m H) (oq : ∀ (q : Nat) (y : bs_E), m q = some y → H1[q]? = H[q]?) : bs_Rep D m H1 := fun b y hy => (h b y hy).kept (oq b y hy)
theorem bs_Rep.lt {D : bs_D} {m : Nat → Option bs_E} {H : Heap} {a : Nat} {x : bs_E} (h : bs_Rep D m H) (hx : m a = some x) : a < H.size := (h a x hx).lt
theorem bs_Rep.one {D : bs_D} {m : Nat → Option bs_E} {H : Heap} {a : Nat} {x : bs_E} (h : bs_Rep D m H) (hx : m a = some x) : va_P D.1 bs_cl [(a, bs_cell D x)] H := by
  intro k q hk
  cases k with
  | zero =>
    cases hk
    exact h a x hx
  | succ n => cases hk
/-- a method: the name of its class, its bytes, its locals, what it returns, its handlers, its name -/
abbrev bs_K : Type := String × (ByteArray × (Nat × (Option FieldType × (List (Nat × Nat × Nat × Nat) × String))))
/-- classes of exceptions that are no kind of each other -/
def bs_nc : List (String × String) := [("java/lang/UnsupportedOperationException", "java/lang/IllegalArgumentException"), ("java/lang/IllegalArgumentException", "java/lang/IndexOutOfBoundsException"), ("java/lang/IllegalStateException", "java/lang/IllegalArgumentException")]
/-- what stands fast in a walk -/
def bs_X (l : Launch) (K : bs_K) (D : bs_D) (p : Program) (s : State) (m : MethodId) (args : Array Value) (meth : Method) (c : Code) : Prop :=
  p.tables.exec = Jvm.exec ∧ c.code = K.2.1 ∧ c.maxLocals = K.2.2.1 ∧ s.vm.findClass K.1 = some m.cls ∧ (∀ w ∈ bs_WS, w.before args s = true) ∧ va_K D.1 bs_cl (bs_tys D) s ∧ meth.locks = false ∧ meth.sig.returnType = K.2.2.2.1 ∧
  c.exceptionTable.toList.map (fun x => (x.startPc, x.endPc, x.handlerPc, x.catchType)) = K.2.2.2.2.1 ∧ meth.name = K.2.2.2.2.2 ∧ l.stackTraces = false ∧ ∀ q ∈ bs_nc, va_Nc q.1 q.2 s
/-- a static field has its place in its class's cell, which is not written -/
def bs_LS (C n d : String) (F : Addr → Prop) (s : State) (H : Heap) : Prop := ∃ (c : ClassId) (k : Class) (i : Nat) (f : Field) (a : Nat) (cell : Cell), s.vm.findClass C = some c ∧ s.fieldFound? C n d = some (c, k, i, f) ∧ f.isStatic = true ∧ k.statics = some a ∧ H[a]? = some cell ∧ cell.vm.isStatics = true ∧ cell.cls = c ∧ f.slot < cell.slots.size ∧ k.staticTypes[f.slot]? = some f.type ∧ ¬ F a
/-- what is only read, as it stood when the method was entered -/
def bs_Env (F : Addr → Prop) (s : State) (v : bs_V) : Prop :=
  (∀ (a n : Nat) (f : Nat → Int32), v.1 a = some (n, f) → va_T .int a n (fun j => .int (f j)) F s s.heap) ∧
  va_Z "BitShuffler$Program" "TICKS_OF_OPS" "[I" (.ref v.2) F s s.heap ∧
  va_Zq "java/lang/Throwable" "UNASSIGNED_STACK" "[Ljava/lang/StackTraceElement;" F s s.heap ∧ va_Zq "java/lang/Throwable" "SUPPRESSED_SENTINEL" "Ljava/util/List;" F s s.heap ∧
  bs_LS "java/lang/Throwable" "UNASSIGNED_STACK" "[Ljava/lang/StackTraceElement;" F s s.heap ∧ bs_LS "java/lang/Throwable" "SUPPRESSED_SENTINEL" "Ljava/util/List;" F s s.heap
def bs_G (D : bs_D) (F : Addr → Prop) (s : State) (h : bs_H) (H : Heap) (locs : List Loc) : Prop :=
  bs_Rep D h.1 H ∧ (∀ n, h.2.1 = some n → H.size = n) ∧ (∀ a x, h.1 a = some x → F a) ∧ (∀ a : Nat, s.heap.size ≤ a → F a) ∧ s.heap.size ≤ H.size ∧ (∀ q ∈ locs, F q.base) ∧
  (∀ q : Nat, q < s.heap.size → ¬ F q → H[q]? = s.heap[q]?) ∧ (∀ (q : Nat) (cell : Cell), F q → H[q]? = some cell → cell.vm.isStatics = false) ∧ bs_Env F s h.2.2.2.2
def bs_out (s t : State) (o : Outcome) (r : bs_R) : Prop := match r with
  | .ok v => o = .returned v
  | .error X => ∃ (a : Addr) (cell : Cell), o = .threw a ∧ t.heap[a]? = some cell ∧ s.vm.findClass X = some cell.cls ∧ cell.vm.isStatics = false
def bs_Q (D : bs_D) (F : Addr → Prop) (Φ : bs_R → bs_H → Prop) (below : List Frame) (s : State) (R : Room) : State → Prop := fun t =>
  ∃ (o : Outcome) (r : bs_R) (h' : bs_H) (L : List Loc) (cells slots : Nat), t.status = .running ∧ Ended t below o ∧ bs_out s t o r ∧ Φ r h' ∧ bs_G D F s h' t.heap L ∧ s.WarmedH t.vm ∧ s.sameButNew ({ t with vm := s.vm } : State) L cells slots ∧ cells + h'.2.2.1 ≤ R.cells ∧ slots + h'.2.2.2.1 ≤ R.slots
/-- from here (pc, locals, operands, heap) the method ends, as Φ asks -/
def bs_J (l : Launch) (K : bs_K) (R : Room) (Φ : bs_R → bs_H → Prop) (pc : Nat) (lo : List (Nat × Value)) (st : List Value) (h : bs_H) : Prop :=
  ∀ (D : bs_D) (p : Program) (e : Env) (s : State) (m : MethodId) (args : Array Value) (below : List Frame) (meth : Method) (c : Code) (F : Addr → Prop) (H : Heap) (locs : List Loc) (cells slots : Nat) (ls : Array Slot),
    bs_X l K D p s m args meth c → bs_G D F s h H locs → cells + h.2.2.1 ≤ R.cells → slots + h.2.2.2.1 ≤ R.slots → lv_has ls K.2.2.1 lo →
    W p l e R s m args below meth c H locs cells slots (bs_Q D F Φ below s R) (F0 m pc ls st)
/-- room for calls so deep -/
def bs_rm (d : Nat) (R : Room) : Prop := 10 + 2 * d ≤ R.frames ∧ 200 + 100 * d ≤ R.locals
theorem bs_G.put {D : bs_D} {F : Addr → Prop} {s : State} {h : bs_H} {H H1 : Heap} {locs : List Loc} {a j : Nat} {x0 x : bs_E} (hG : bs_G D F s h H locs) (hx : h.1 a = some x0) (ht : va_at D.1 bs_cl (a, bs_cell D x) H1) (hz : H1.size = H.size) (oq : ∀ q : Nat, q ≠ a → H1[q]? = H[q]?)
    (hc : ∀ cell : Cell, H1[a]? = some cell → cell.vm.isStatics = false) : bs_G D F s (bs_set h a x) H1 (locs ++ [⟨a, j⟩]) := by
  obtain ⟨g1, g2, g3, g4, g5, g6, g7, g8, g9⟩ := hG
  have hF : F a := g3 a x0 hx
  refine ⟨g1.put ht (fun q _ _ hq => oq q hq), fun n hn => hz.trans (g2 n hn), fun b y hy => ?_, g4, by rw [hz]; exact g5, fun q hq => ?_, fun q h1 h2 => ?_, fun q cell h1 h2 => ?_, g9⟩
  · by_cases hb : b = a
    · rw [hb]; exact hF
    · exact g3 b y (by rw [← hy, bs_set_1, if_neg hb])
  · rcases List.mem_append.mp hq with h1 | h1
    · exact g6 q h1
    · rw [List.mem_singleton.mp h1]; exact hF
  · rw [oq q (fun e => h2 (e ▸ hF))]
    exact g7 q h1 h2
  · by_cases hb : q = a
    · rw [hb] at h2; exact hc cell h2
    · rw [oq q hb] at h2; exact g8 q cell h1 h2
theorem bs_G.push {D : bs_D} {F : Addr → Prop} {s : State} {h : bs_H} {H H1 : Heap} {locs : List Loc} {a k : Nat} {x : bs_E} (hG : bs_G D F s h H locs) (ha : h.2.1 = some a) (ht : va_at D.1 bs_cl (a, bs_cell D x) H1) (hz : H1.size = a + 1) (oq : ∀ q : Nat, q < a → H1[q]? = H[q]?)
    (hc : ∀ cell : Cell, H1[a]? = some cell → cell.vm.isStatics = false) : bs_G D F s (bs_push h a k x) H1 locs := by
  obtain ⟨g1, g2, g3, g4, g5, g6, g7, g8, g9⟩ := hG
  have hs := g2 a ha
  have hF : F a := g4 a (by omega)
  refine ⟨g1.put ht (fun q y hy _ => oq q (by have := g1.lt hy; omega)), fun n hn => ?_, fun b y hy => ?_, g4, by omega, g6, fun q h1 h2 => ?_, fun q cell h1 h2 => ?_, g9⟩
  · cases hn; exact hz
  · by_cases hb : b = a
    · rw [hb]; exact hF
    · exact g3 b y (by rw [← hy, bs_push_1, if_neg hb])
  · rw [oq q (by omega)]
    exact g7 q h1 h2
  · by_cases hb : q = a
    · rw [hb] at h2; exact hc cell h2
    · have hl : q < H1.size := (Array.getElem?_eq_some_iff.mp h2).1
      rw [oq q (by omega)] at h2; exact g8 q cell h1 h2

/-! The constructors. -/
theorem bs_push_eq {h : bs_H} {a k : Nat} {x : bs_E} : (bs_push h a k x).1 a = some x := by rw [bs_push_1, if_pos rfl]
theorem bs_push_ne {h : bs_H} {a k b : Nat} {x : bs_E} (hb : b ≠ a) : (bs_push h a k x).1 b = h.1 b := by rw [bs_push_1, if_neg hb]
/-- the next cell is a; so many cells and slots are left at least; the given arrays are E -/
def room (h : bs_H) (a c s : Nat) (E : (Nat → Option (Nat × (Nat → Int32))) × Nat) : Prop := h.2.1 = some a ∧ c ≤ h.2.2.1 ∧ s ≤ h.2.2.2.1 ∧ h.2.2.2.2 = E
theorem room.push {h : bs_H} {a c s N : Nat} {E : (Nat → Option (Nat × (Nat → Int32))) × Nat} {x : bs_E} (r : room h a c s E) : room (bs_push h a N x) (a + 1) (c - 1) (s - N) E := ⟨rfl, by have := r.2.1; show c - 1 ≤ h.2.2.1 - 1; omega, by have := r.2.2.1; show s - N ≤ h.2.2.2.1 - N; omega, r.2.2.2⟩
theorem room.set {h : bs_H} {a c s b : Nat} {E : (Nat → Option (Nat × (Nat → Int32))) × Nat} {x : bs_E} (r : room h a c s E) : room (bs_set h b x) a c s E := r
theorem room.le {h : bs_H} {a c s c' s' : Nat} {E : (Nat → Option (Nat × (Nat → Int32))) × Nat} (r : room h a c s E) (hc : c' ≤ c) (hs : s' ≤ s) : room h a c' s' E := ⟨r.1, Nat.le_trans hc r.2.1, Nat.le_trans hs r.2.2.1, r.2.2.2⟩
section NW
variable {Φ : bs_R → bs_H → Prop} {h : bs_H} {a c s : Nat} {E : (Nat → Option (Nat × (Nat → Int32))) × Nat}
theorem nO_i {ci N : Nat} {fs : List Value} {Q : Nat → bs_H → Prop} (r : room h a c s E) (hc : 1 ≤ c) (hs : N ≤ s) (k : room (bs_push h a N (bs_obj ci fs)) (a + 1) (c - 1) (s - N) E → Q a (bs_push h a N (bs_obj ci fs))) : bs_nO h ci N fs Q := ⟨a, r.1, Nat.le_trans hc r.2.1, Nat.le_trans hs r.2.2.1, k r.push⟩
theorem nA_i {N : Nat} {x : bs_E} {Q : Nat → bs_H → Prop} (r : room h a c s E) (hc : 1 ≤ c) (hs : N ≤ s) (k : room (bs_push h a N x) (a + 1) (c - 1) (s - N) E → Q a (bs_push h a N x)) : bs_nA h N x Q := ⟨a, r.1, Nat.le_trans hc r.2.1, Nat.le_trans hs r.2.2.1, k r.push⟩
/-- a row is made and put into a field -/
theorem row_i {Y ci k N : Nat} {x : bs_E} {fs fs' : List Value} {Q : bs_H → Prop} (o : h.1 Y = some (bs_obj ci fs)) (r : room h a c s E) (hY : Y < a) (hc : 1 ≤ c) (hs : N ≤ s) (hl : k < fs.length) (he : fs.set k (.ref a) = fs') (z : ∀ h', h'.1 Y = some (bs_obj ci fs') → room h' (a + 1) (c - 1) (s - N) E → h'.1 a = some x → (∀ b, b < a → b ≠ Y → h'.1 b = h.1 b) → Q h') : bs_nA h N x (fun v h2 => bs_p h2 Y ci k (.ref v) (fun h3 => Q h3)) :=
  nA_i r hc hs (fun r1 => bs_p_i (by rw [bs_push_ne (by omega)]; exact o) hl he (z _ bs_set_eq r1.set (by rw [bs_set_ne (by omega), bs_push_eq]) (fun b h1 h2 => by rw [bs_set_ne h2, bs_push_ne (by omega)])))
theorem s_M_new {K : Nat → bs_H → Prop} (r : room h a c s E) (hc : 2 ≤ c) (hs : 66 ≤ s) (k : ∀ h', pM h' a 1 (fun _ => 0) → room h' (a + 2) (c - 2) (s - 66) E → (∀ b, b < a → h'.1 b = h.1 b) → K a h') : bs_nO h 1 2 z_M (fun v h2 => w_M_init (bs_kV Φ fun h3 => K v h3) v h2) := by
  refine nO_i r (by omega) (by omega) (fun r1 => ?_)
  refine row_i (fs' := [.ref (a + 1), .int 0]) bs_push_eq r1 (by omega) (by omega) (by omega) (by decide) rfl (fun h1 o1 r2 x1 k1 => bs_p_i (fs' := [.ref (a + 1), .int 1]) o1 (by simp) rfl (bs_kV_i (k _ ⟨bs_set_eq, by rw [bs_set_ne (by omega)]; exact x1⟩ (r2.set.le (by omega) (by omega)) (fun b hb => ?_))))
  rw [bs_set_ne (by omega), k1 b (by omega) (by omega), bs_push_ne (by omega)]
theorem s_P_new {K : Nat → bs_H → Prop} (r : room h a c s E) (hc : 4 ≤ c) (hs : 580 ≤ s) (k : ∀ h', pP h' a 0 (fun _ => 0) (fun _ => 0) (fun _ => 0) → room h' (a + 4) (c - 4) (s - 580) E → (∀ b, b < a → h'.1 b = h.1 b) → K a h') : bs_nO h 2 4 z_P (fun v h2 => w_P_init (bs_kV Φ fun h3 => K v h3) v h2) := by
  refine nO_i r (by omega) (by omega) (fun r1 => ?_)
  refine row_i (fs' := [.ref (a + 1), .null, .null, .int 0]) bs_push_eq r1 (by omega) (by omega) (by omega) (by decide) rfl (fun h1 o1 r2 x1 k1 => ?_)
  refine row_i (fs' := [.ref (a + 1), .ref (a + 2), .null, .int 0]) o1 r2 (by omega) (by omega) (by omega) (by simp) rfl (fun h2 o2 r3 x2 k2 => ?_)
  refine row_i (fs' := [.ref (a + 1), .ref (a + 2), .ref (a + 3), .int 0]) o2 r3 (by omega) (by omega) (by omega) (by simp) rfl (fun h3 o3 r4 x3 k3 => ?_)
  refine bs_p_i (fs' := [.ref (a + 1), .ref (a + 2), .ref (a + 3), .int 0]) o3 (by simp) rfl (bs_kV_i (k _ ⟨bs_set_eq, ?_, ?_, ?_⟩ (r4.set.le (by omega) (by omega)) (fun b hb => ?_)))
  · rw [bs_set_ne (by omega), k3 _ (by omega) (by omega), k2 _ (by omega) (by omega)]; exact x1
  · rw [bs_set_ne (by omega), k3 _ (by omega) (by omega)]; exact x2
  · rw [bs_set_ne (by omega)]; exact x3
  · rw [bs_set_ne (by omega), k3 _ (by omega) (by omega), k2 _ (by omega) (by omega), k1 _ (by omega) (by omega), bs_push_ne (by omega)]
theorem s_W_new {K : Nat → bs_H → Prop} (r : room h a c s E) (hc : 1 ≤ c) (hs : 4 ≤ s) (k : ∀ h', h'.1 a = some (bs_obj 3 [.int 1, .long 0, .long 0, .long 0]) → room h' (a + 1) (c - 1) (s - 4) E → (∀ b, b < a → h'.1 b = h.1 b) → K a h') : bs_nO h 3 4 z_W (fun v h2 => w_W_init (bs_kV Φ fun h3 => K v h3) v h2) := by
  refine nO_i r (by omega) (by omega) (fun r1 => ?_)
  refine bs_p_i (fs' := [.int 1, .long 0, .long 0, .long 0]) bs_push_eq (by decide) rfl (bs_kV_i (k _ bs_set_eq r1 (fun b hb => ?_)))
  rw [bs_set_ne (by omega), bs_push_ne (by omega)]
theorem s_S_new {K : Nat → bs_H → Prop} (r : room h a c s E) (hc : 4 ≤ c) (hs : 197 ≤ s) (k : ∀ h', h'.1 a = some (bs_obj 4 [.ref (a + 1), .ref (a + 2), .ref (a + 3), .long 0, .int 1]) → h'.1 (a + 1) = some (bs_la 64 (fun _ => 0)) → h'.1 (a + 2) = some (bs_la 64 (fun _ => 0)) → h'.1 (a + 3) = some (bs_la 64 (fun _ => 0)) → room h' (a + 4) (c - 4) (s - 197) E → (∀ b, b < a → h'.1 b = h.1 b) → K a h') : bs_nO h 4 5 z_S (fun v h2 => w_S_init (bs_kV Φ fun h3 => K v h3) v h2) := by
  refine nO_i r (by omega) (by omega) (fun r1 => ?_)
  refine row_i (fs' := [.ref (a + 1), .null, .null, .long 0, .int 0]) bs_push_eq r1 (by omega) (by omega) (by omega) (by decide) rfl (fun h1 o1 r2 x1 k1 => ?_)
  refine row_i (fs' := [.ref (a + 1), .ref (a + 2), .null, .long 0, .int 0]) o1 r2 (by omega) (by omega) (by omega) (by simp) rfl (fun h2 o2 r3 x2 k2 => ?_)
  refine row_i (fs' := [.ref (a + 1), .ref (a + 2), .ref (a + 3), .long 0, .int 0]) o2 r3 (by omega) (by omega) (by omega) (by simp) rfl (fun h3 o3 r4 x3 k3 => ?_)
  refine bs_p_i (fs' := [.ref (a + 1), .ref (a + 2), .ref (a + 3), .long 0, .int 0]) o3 (by simp) rfl (bs_p_i (fs' := [.ref (a + 1), .ref (a + 2), .ref (a + 3), .long 0, .int 1]) bs_set_eq (by simp) rfl (bs_kV_i (k _ bs_set_eq ?_ ?_ ?_ (r4.set.set.le (by omega) (by omega)) (fun b hb => ?_))))
  · rw [bs_set_ne (by omega), bs_set_ne (by omega), k3 _ (by omega) (by omega), k2 _ (by omega) (by omega)]; exact x1
  · rw [bs_set_ne (by omega), bs_set_ne (by omega), k3 _ (by omega) (by omega)]; exact x2
  · rw [bs_set_ne (by omega), bs_set_ne (by omega)]; exact x3
  · rw [bs_set_ne (by omega), bs_set_ne (by omega), k3 _ (by omega) (by omega), k2 _ (by omega) (by omega), k1 _ (by omega) (by omega), bs_push_ne (by omega)]
theorem s_X_new {K : Nat → bs_H → Prop} (r : room h a c s E) (hc : 4 ≤ c) (hs : 141 ≤ s) (k : ∀ h', h'.1 a = some (bs_obj 5 [.ref (a + 1), .ref (a + 2), .ref (a + 3), .int 1, .long 0, .long 0, .long 0]) → h'.1 (a + 1) = some (bs_ia 64 (fun _ => 0)) → h'.1 (a + 2) = some (bs_ia 64 (fun _ => 0)) → h'.1 (a + 3) = some (bs_la 6 (fun _ => 0)) → room h' (a + 4) (c - 4) (s - 141) E → (∀ b, b < a → h'.1 b = h.1 b) → K a h') : bs_nO h 5 7 z_X (fun v h2 => w_X_init (bs_kV Φ fun h3 => K v h3) v h2) := by
  refine nO_i r (by omega) (by omega) (fun r1 => ?_)
  refine row_i (fs' := [.ref (a + 1), .null, .null, .int 0, .long 0, .long 0, .long 0]) bs_push_eq r1 (by omega) (by omega) (by omega) (by decide) rfl (fun h1 o1 r2 x1 k1 => ?_)
  refine row_i (fs' := [.ref (a + 1), .ref (a + 2), .null, .int 0, .long 0, .long 0, .long 0]) o1 r2 (by omega) (by omega) (by omega) (by simp) rfl (fun h2 o2 r3 x2 k2 => ?_)
  refine row_i (fs' := [.ref (a + 1), .ref (a + 2), .ref (a + 3), .int 0, .long 0, .long 0, .long 0]) o2 r3 (by omega) (by omega) (by omega) (by simp) rfl (fun h3 o3 r4 x3 k3 => ?_)
  refine bs_p_i (fs' := [.ref (a + 1), .ref (a + 2), .ref (a + 3), .int 1, .long 0, .long 0, .long 0]) o3 (by simp) rfl (bs_kV_i (k _ bs_set_eq ?_ ?_ ?_ (r4.set.le (by omega) (by omega)) (fun b hb => ?_)))
  · rw [bs_set_ne (by omega), k3 _ (by omega) (by omega), k2 _ (by omega) (by omega)]; exact x1
  · rw [bs_set_ne (by omega), k3 _ (by omega) (by omega)]; exact x2
  · rw [bs_set_ne (by omega)]; exact x3
  · rw [bs_set_ne (by omega), k3 _ (by omega) (by omega), k2 _ (by omega) (by omega), k1 _ (by omega) (by omega), bs_push_ne (by omega)]
theorem s_G_new {K : Nat → bs_H → Prop} (r : room h a c s E) (hc : 3 ≤ c) (hs : 131 ≤ s) (k : ∀ h', h'.1 a = some (bs_obj 6 [.ref (a + 1), .ref (a + 2), .int 0]) → h'.1 (a + 1) = some (bs_la 64 (fun _ => 0)) → h'.1 (a + 2) = some (bs_la 64 (fun _ => 0)) → room h' (a + 3) (c - 3) (s - 131) E → (∀ b, b < a → h'.1 b = h.1 b) → K a h') : bs_nO h 6 3 z_G (fun v h2 => w_G_init (bs_kV Φ fun h3 => K v h3) v h2) := by
  refine nO_i r (by omega) (by omega) (fun r1 => ?_)
  refine row_i (fs' := [.ref (a + 1), .null, .int 0]) bs_push_eq r1 (by omega) (by omega) (by omega) (by decide) rfl (fun h1 o1 r2 x1 k1 => ?_)
  refine row_i (fs' := [.ref (a + 1), .ref (a + 2), .int 0]) o1 r2 (by omega) (by omega) (by omega) (by simp) rfl (fun h2 o2 r3 x2 k2 => ?_)
  refine bs_p_i (fs' := [.ref (a + 1), .ref (a + 2), .int 0]) o2 (by simp) rfl (bs_kV_i (k _ bs_set_eq ?_ ?_ (r3.set.le (by omega) (by omega)) (fun b hb => ?_)))
  · rw [bs_set_ne (by omega), k2 _ (by omega) (by omega)]; exact x1
  · rw [bs_set_ne (by omega)]; exact x2
  · rw [bs_set_ne (by omega), k2 _ (by omega) (by omega), k1 _ (by omega) (by omega), bs_push_ne (by omega)]
end NW

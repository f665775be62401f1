/-! The class's program (an object at a, its rows at a + 1, a + 2, a + 3). -/
def pP (h : bs_H) (a n : Nat) (o am : Nat → Int32) (m : Nat → Int64) : Prop := h.1 a = some (bs_obj 2 [.ref (a + 1), .ref (a + 2), .ref (a + 3), .int (nI n)]) ∧ h.1 (a + 1) = some (bs_ia 192 o) ∧ h.1 (a + 2) = some (bs_ia 192 am) ∧ h.1 (a + 3) = some (bs_la 192 m)
def setP (h : bs_H) (a n : Nat) (o am : Nat → Int32) (m : Nat → Int64) : bs_H := bs_set (bs_set (bs_set (bs_set h (a + 1) (bs_ia 192 o)) (a + 2) (bs_ia 192 am)) (a + 3) (bs_la 192 m)) a (bs_obj 2 [.ref (a + 1), .ref (a + 2), .ref (a + 3), .int (nI n)])
theorem setP_at (h : bs_H) (a n : Nat) (o am : Nat → Int32) (m : Nat → Int64) : pP (setP h a n o am m) a n o am m := by
  refine ⟨bs_set_eq, ?_, ?_, ?_⟩
  · unfold setP
    rw [bs_set_ne (by omega), bs_set_ne (by omega), bs_set_ne (by omega), bs_set_eq]
  · unfold setP
    rw [bs_set_ne (by omega), bs_set_ne (by omega), bs_set_eq]
  · unfold setP
    rw [bs_set_ne (by omega), bs_set_eq]
theorem setP_off (h : bs_H) (a n : Nat) (o am : Nat → Int32) (m : Nat → Int64) {b : Nat} (hb : b < a ∨ a + 3 < b) : (setP h a n o am m).1 b = h.1 b := by
  unfold setP
  rw [bs_set_ne (by omega), bs_set_ne (by omega), bs_set_ne (by omega), bs_set_ne (by omega)]
theorem setP_2 (h : bs_H) (a n : Nat) (o am : Nat → Int32) (m : Nat → Int64) : (setP h a n o am m).2 = h.2 := rfl
theorem setP_setP (h : bs_H) (a n n' : Nat) (o am o' am' : Nat → Int32) (m m' : Nat → Int64) : setP (setP h a n o am m) a n' o' am' m' = setP h a n' o' am' m' := by
  refine Prod.ext (funext fun b => ?_) rfl
  by_cases hb : b < a ∨ a + 3 < b
  · rw [setP_off _ _ _ _ _ _ hb, setP_off _ _ _ _ _ _ hb, setP_off _ _ _ _ _ _ hb]
  · have h1 := setP_at (setP h a n o am m) a n' o' am' m'
    have h2 := setP_at h a n' o' am' m'
    have hc : b = a ∨ b = a + 1 ∨ b = a + 2 ∨ b = a + 3 := by omega
    rcases hc with rfl | rfl | rfl | rfl
    · rw [h1.1, h2.1]
    · rw [h1.2.1, h2.2.1]
    · rw [h1.2.2.1, h2.2.2.1]
    · rw [h1.2.2.2, h2.2.2.2]
section SP
variable {Φ : bs_R → bs_H → Prop} {h : bs_H} {a n : Nat} {o am : Nat → Int32} {m : Nat → Int64}
theorem setP_self (p : pP h a n o am m) : setP h a n o am m = h := by
  unfold setP
  rw [bs_set_get p.2.1, bs_set_get p.2.2.1, bs_set_get p.2.2.2, bs_set_get p.1]
theorem s_P_length (p : pP h a n o am m) (k : Φ (.ok (some (.int (nI n)))) h) : w_P_length Φ a h := bs_fI_i p.1 rfl k
theorem s_P_opAt (p : pP h a n o am m) {i : Nat} (hi : i < 192) (k : Φ (.ok (some (.int (o i)))) h) : w_P_opAt Φ a (nI i) h := bs_fA_i p.1 rfl (bs_lI_i i p.2.1 rfl hi (by decide) k)
theorem s_P_amountAt (p : pP h a n o am m) {i : Nat} (hi : i < 192) (k : Φ (.ok (some (.int (am i)))) h) : w_P_amountAt Φ a (nI i) h := bs_fA_i p.1 rfl (bs_lI_i i p.2.2.1 rfl hi (by decide) k)
theorem s_P_maskAt (p : pP h a n o am m) {i : Nat} (hi : i < 192) (k : Φ (.ok (some (.long (m i)))) h) : w_P_maskAt Φ a (nI i) h := bs_fA_i p.1 rfl (bs_lL_i i p.2.2.2 rfl hi (by decide) k)
theorem s_P_clear (p : pP h a n o am m) (k : Φ (.ok none) (setP h a 0 o am m)) : w_P_clear Φ a h := by
  refine bs_p_i p.1 (by simp) rfl ?_
  unfold setP at k
  rw [bs_set_get p.2.1, bs_set_get p.2.2.1, bs_set_get p.2.2.2] at k
  exact k
theorem s_P_change (p : pP h a n o am m) {i : Nat} (hi : i < 192) {x : Int32} {y : Int64} (k : Φ (.ok none) (bs_set (bs_set h (a + 2) (bs_ia 192 (va_up am i x))) (a + 3) (bs_la 192 (va_up m i y)))) : w_P_change Φ a (nI i) x y h := by
  refine bs_fA_i p.1 rfl (bs_sI_i i p.2.2.1 rfl hi (by decide) ?_)
  refine bs_fA_i (by rw [bs_set_ne (by omega)]; exact p.1) rfl (bs_sL_i i (by rw [bs_set_ne (by omega)]; exact p.2.2.2) rfl hi (by decide) k)
theorem s_P_append (p : pP h a n o am m) (hn : n < 192) {x y : Int32} {z : Int64} (k : Φ (.ok none) (setP h a (n + 1) (va_up o n x) (va_up am n y) (va_up m n z))) : w_P_append Φ a x y z h := by
  refine bs_fI_i p.1 rfl (bs_iff (nI_ge (b := 192) hn (by omega)) (bs_fA_i p.1 rfl (bs_fI_i p.1 rfl (bs_sI_i n p.2.1 rfl hn (by decide) ?_))))
  have p1 : (bs_set h (a + 1) (bs_ia 192 (va_up o n x))).1 a = some (bs_obj 2 [.ref (a + 1), .ref (a + 2), .ref (a + 3), .int (nI n)]) := by rw [bs_set_ne (by omega)]; exact p.1
  refine bs_fI_i p1 rfl ⟨⟨_, p1⟩, s_P_change (n := n) (o := va_up o n x) (am := am) (m := m) ⟨p1, bs_set_eq, by rw [bs_set_ne (by omega)]; exact p.2.2.1, by rw [bs_set_ne (by omega)]; exact p.2.2.2⟩ hn (bs_kV_i ?_)⟩
  refine bs_fI_i (by rw [bs_set_ne (by omega), bs_set_ne (by omega)]; exact p1) rfl (bs_p_i (by rw [bs_set_ne (by omega), bs_set_ne (by omega)]; exact p1) (by simp) rfl ?_)
  rw [← nI_succ]
  exact k
theorem s_P_appendMove0 {x y : Int32} (k : Φ (.ok none) h) : w_P_appendMove Φ a x y 0 h := bs_ift rfl k
theorem s_P_appendMove (p : pP h a n o am m) (hn : n + 2 < 192) {x y : Int32} {z : Int64} (hz : ¬ z = 0) (k : Φ (.ok none) (setP h a (n + 3) (va_up (va_up (va_up o n x) (n + 1) 2) (n + 2) 3) (va_up (va_up (va_up am n y) (n + 1) 0) (n + 2) 0) (va_up (va_up (va_up m n 0) (n + 1) z) (n + 2) 0))) : w_P_appendMove Φ a x y z h := by
  refine bs_iff hz ⟨⟨_, p.1⟩, s_P_append p (by omega) (bs_kV_i ?_)⟩
  have p1 := setP_at h a (n + 1) (va_up o n x) (va_up am n y) (va_up m n 0)
  refine ⟨⟨_, p1.1⟩, s_P_append p1 (by omega) (bs_kV_i ?_)⟩
  rw [setP_setP]
  have p2 := setP_at h a (n + 2) (va_up (va_up o n x) (n + 1) 2) (va_up (va_up am n y) (n + 1) 0) (va_up (va_up m n 0) (n + 1) z)
  refine ⟨⟨_, p2.1⟩, s_P_append p2 (by omega) (bs_kV_i ?_)⟩
  rw [setP_setP]
  exact k
theorem s_P_appendSet0 (k : Φ (.ok none) h) : w_P_appendSet Φ a 0 h := bs_ift rfl k
theorem s_P_appendSet (p : pP h a n o am m) (hn : n < 192) {z : Int64} (hz : ¬ z = 0) (k : Φ (.ok none) (setP h a (n + 1) (va_up o n 4) (va_up am n 0) (va_up m n z))) : w_P_appendSet Φ a z h := bs_iff hz ⟨⟨_, p.1⟩, s_P_append p hn (bs_kV_i k)⟩
theorem s_P_appendSwap0 {x : Int32} (k : Φ (.ok none) h) : w_P_appendSwap Φ a x 0 h := bs_ift rfl k
theorem s_P_appendSwap (p : pP h a n o am m) (hn : n < 192) {x : Int32} {z : Int64} (hz : ¬ z = 0) (k : Φ (.ok none) (setP h a (n + 1) (va_up o n 5) (va_up am n x) (va_up m n z))) : w_P_appendSwap Φ a x z h := bs_iff hz ⟨⟨_, p.1⟩, s_P_append p hn (bs_kV_i k)⟩
end SP

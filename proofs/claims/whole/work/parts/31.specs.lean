/-! How meanings are proved: steps. -/
theorem bs_ift {c A B : Prop} (hc : c) (a : A) : bs_if c A B := ⟨fun _ => a, fun n => absurd hc n⟩
theorem bs_iff {c A B : Prop} (hc : ¬ c) (b : B) : bs_if c A B := ⟨fun n => absurd n hc, fun _ => b⟩
theorem bs_ifc {c A B : Prop} (a : c → A) (b : ¬ c → B) : bs_if c A B := ⟨a, b⟩
theorem bs_ife {c d A B : Prop} (e : c ↔ d) (a : d → A) (b : ¬ d → B) : bs_if c A B := ⟨fun h => a (e.mp h), fun h => b (fun z => h (e.mpr z))⟩
theorem bs_kI_i {Φ : bs_R → bs_H → Prop} {k : Int32 → bs_H → Prop} {v : Int32} {h : bs_H} (z : k v h) : bs_kI Φ k (.ok (some (.int v))) h := z
theorem bs_kL_i {Φ : bs_R → bs_H → Prop} {k : Int64 → bs_H → Prop} {v : Int64} {h : bs_H} (z : k v h) : bs_kL Φ k (.ok (some (.long v))) h := z
theorem bs_kV_i {Φ : bs_R → bs_H → Prop} {k : bs_H → Prop} {h : bs_H} (z : k h) : bs_kV Φ k (.ok none) h := z
theorem bs_kI_e {Φ : bs_R → bs_H → Prop} {k : Int32 → bs_H → Prop} {X : String} {h : bs_H} (z : Φ (.error X) h) : bs_kI Φ k (.error X) h := z
theorem bs_kL_e {Φ : bs_R → bs_H → Prop} {k : Int64 → bs_H → Prop} {X : String} {h : bs_H} (z : Φ (.error X) h) : bs_kL Φ k (.error X) h := z
theorem bs_kV_e {Φ : bs_R → bs_H → Prop} {k : bs_H → Prop} {X : String} {h : bs_H} (z : Φ (.error X) h) : bs_kV Φ k (.error X) h := z
/-- a boolean as an int -/
def bz (b : Bool) : Int32 := if b then 1 else 0
theorem bz_0 (b : Bool) : bz b = 0 ↔ b = false := by cases b <;> decide
theorem bs_ifz {b : Bool} {A B : Prop} (a : b = false → A) (c : b = true → B) : bs_if (bz b = 0) A B := by
  cases b
  · exact bs_ift rfl (a rfl)
  · exact bs_iff (by decide) (c rfl)
theorem bs_rZ_b {Φ : bs_R → bs_H → Prop} {b : Bool} {h : bs_H} (k : Φ (.ok (some (.int (bz b)))) h) : bs_rZ Φ (bz b) h := ⟨by cases b <;> rfl, k⟩
theorem bs_rZ_0 {Φ : bs_R → bs_H → Prop} {h : bs_H} (k : Φ (.ok (some (.int (bz false)))) h) : bs_rZ Φ 0 h := ⟨rfl, k⟩
theorem bs_rZ_1 {Φ : bs_R → bs_H → Prop} {h : bs_H} (k : Φ (.ok (some (.int (bz true)))) h) : bs_rZ Φ 1 h := ⟨rfl, k⟩
/-- a field is read, an element is read, written -/
theorem bs_fI_i {h : bs_H} {a ci k : Nat} {Q : Int32 → Prop} {fs : List Value} {v : Int32} (hx : h.1 a = some (bs_obj ci fs)) (hv : fs[k]? = some (.int v)) (z : Q v) : bs_fI h a ci k Q := ⟨_, _, hx, hv, z⟩
theorem bs_fL_i {h : bs_H} {a ci k : Nat} {Q : Int64 → Prop} {fs : List Value} {v : Int64} (hx : h.1 a = some (bs_obj ci fs)) (hv : fs[k]? = some (.long v)) (z : Q v) : bs_fL h a ci k Q := ⟨_, _, hx, hv, z⟩
theorem bs_fA_i {h : bs_H} {a ci k : Nat} {Q : Nat → Prop} {fs : List Value} {v : Nat} (hx : h.1 a = some (bs_obj ci fs)) (hv : fs[k]? = some (.ref v)) (z : Q v) : bs_fA h a ci k Q := ⟨_, _, hx, hv, z⟩
theorem bs_p_i {h : bs_H} {a ci k : Nat} {v : Value} {Q : bs_H → Prop} {fs fs' : List Value} (hx : h.1 a = some (bs_obj ci fs)) (hl : k < fs.length) (he : fs.set k v = fs') (z : Q (bs_set h a (bs_obj ci fs'))) : bs_p h a ci k v Q := ⟨_, hx, hl, by rw [he]; exact z⟩
theorem bs_lI_i {h : bs_H} {a n : Nat} {i : Int32} {Q : Int32 → Prop} {f : Nat → Int32} (j : Nat) (hx : h.1 a = some (bs_ia n f)) (hi : i = nI j) (hj : j < n) (hn : n < 2 ^ 31) (z : Q (f j)) : bs_lI h a i Q := by
  subst hi
  refine ⟨n, f, f j, hx, vp_in_nI hj hn, ?_, z⟩
  rw [nI_clamp (by omega)]
theorem bs_lL_i {h : bs_H} {a n : Nat} {i : Int32} {Q : Int64 → Prop} {f : Nat → Int64} (j : Nat) (hx : h.1 a = some (bs_la n f)) (hi : i = nI j) (hj : j < n) (hn : n < 2 ^ 31) (z : Q (f j)) : bs_lL h a i Q := by
  subst hi
  refine ⟨n, f, f j, hx, vp_in_nI hj hn, ?_, z⟩
  rw [nI_clamp (by omega)]
theorem bs_lZ_i {h : bs_H} {a n : Nat} {i : Int32} {Q : Int32 → Prop} {f : Nat → Int32} (j : Nat) (hx : h.1 a = some (bs_za n f)) (hi : i = nI j) (hj : j < n) (hn : n < 2 ^ 31) (z : Q (f j)) : bs_lZ h a i Q := by
  subst hi
  refine ⟨n, f, f j, hx, vp_in_nI hj hn, ?_, z⟩
  rw [nI_clamp (by omega)]
theorem bs_sI_i {h : bs_H} {a n : Nat} {i x : Int32} {Q : bs_H → Prop} {f : Nat → Int32} (j : Nat) (hx : h.1 a = some (bs_ia n f)) (hi : i = nI j) (hj : j < n) (hn : n < 2 ^ 31) (z : Q (bs_set h a (bs_ia n (va_up f j x)))) : bs_sI h a i x Q := by
  subst hi
  refine ⟨n, f, hx, vp_in_nI hj hn, ?_⟩
  rw [nI_clamp (by omega)]
  exact z
theorem bs_sL_i {h : bs_H} {a n : Nat} {i : Int32} {x : Int64} {Q : bs_H → Prop} {f : Nat → Int64} (j : Nat) (hx : h.1 a = some (bs_la n f)) (hi : i = nI j) (hj : j < n) (hn : n < 2 ^ 31) (z : Q (bs_set h a (bs_la n (va_up f j x)))) : bs_sL h a i x Q := by
  subst hi
  refine ⟨n, f, hx, vp_in_nI hj hn, ?_⟩
  rw [nI_clamp (by omega)]
  exact z
theorem bs_sZ_i {h : bs_H} {a n : Nat} {i : Int32} {b : Bool} {Q : bs_H → Prop} {f : Nat → Int32} (j : Nat) (hx : h.1 a = some (bs_za n f)) (hi : i = nI j) (hj : j < n) (hn : n < 2 ^ 31) (z : Q (bs_set h a (bs_za n (va_up f j (bz b))))) : bs_sZ h a i (bz b) Q := by
  subst hi
  refine ⟨n, f, hx, vp_in_nI hj hn, by cases b <;> rfl, ?_⟩
  rw [nI_clamp (by omega)]
  exact z
theorem bs_set_eq {h : bs_H} {a : Nat} {x : bs_E} : (bs_set h a x).1 a = some x := by rw [bs_set_1, if_pos rfl]
theorem bs_set_ne {h : bs_H} {a b : Nat} {x : bs_E} (hb : b ≠ a) : (bs_set h a x).1 b = h.1 b := by rw [bs_set_1, if_neg hb]
theorem bs_up_eq {α : Type} (f : Nat → α) (k : Nat) (v : α) : va_up f k v k = v := if_pos rfl
theorem bs_up_ne {α : Type} (f : Nat → α) {k j : Nat} (v : α) (h : j ≠ k) : va_up f k v j = f j := if_neg h

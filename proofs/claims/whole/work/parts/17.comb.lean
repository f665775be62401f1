/-! The words in which the methods' meanings are written. -/
def bs_if (c A B : Prop) : Prop := (c → A) ∧ (¬ c → B)
def bs_fI (h : bs_H) (a ci k : Nat) (Q : Int32 → Prop) : Prop := ∃ (fs : List Value) (v : Int32), h.1 a = some (bs_obj ci fs) ∧ fs[k]? = some (.int v) ∧ Q v
def bs_fL (h : bs_H) (a ci k : Nat) (Q : Int64 → Prop) : Prop := ∃ (fs : List Value) (v : Int64), h.1 a = some (bs_obj ci fs) ∧ fs[k]? = some (.long v) ∧ Q v
def bs_fA (h : bs_H) (a ci k : Nat) (Q : Nat → Prop) : Prop := ∃ (fs : List Value) (v : Nat), h.1 a = some (bs_obj ci fs) ∧ fs[k]? = some (.ref v) ∧ Q v
def bs_p (h : bs_H) (a ci k : Nat) (v : Value) (Q : bs_H → Prop) : Prop := ∃ fs : List Value, h.1 a = some (bs_obj ci fs) ∧ k < fs.length ∧ Q (bs_set h a (bs_obj ci (fs.set k v)))
def bs_lI (h : bs_H) (a : Nat) (i : Int32) (Q : Int32 → Prop) : Prop := ∃ (n : Nat) (f : Nat → Int32) (v : Int32), h.1 a = some (bs_ia n f) ∧ vp_in i n ∧ f i.toNatClampNeg = v ∧ Q v
def bs_lL (h : bs_H) (a : Nat) (i : Int32) (Q : Int64 → Prop) : Prop := ∃ (n : Nat) (f : Nat → Int64) (v : Int64), h.1 a = some (bs_la n f) ∧ vp_in i n ∧ f i.toNatClampNeg = v ∧ Q v
def bs_lZ (h : bs_H) (a : Nat) (i : Int32) (Q : Int32 → Prop) : Prop := ∃ (n : Nat) (f : Nat → Int32) (v : Int32), h.1 a = some (bs_za n f) ∧ vp_in i n ∧ f i.toNatClampNeg = v ∧ Q v
def bs_lA (h : bs_H) (a : Nat) (i : Int32) (Q : Nat → Prop) : Prop := ∃ (n : Nat) (f : Nat → Option Nat) (v : Nat), h.1 a = some (bs_ra n f) ∧ vp_in i n ∧ f i.toNatClampNeg = some v ∧ Q v
def bs_lX (h : bs_H) (a : Nat) (i : Int32) (Q : Int32 → Prop) : Prop := ∃ (n : Nat) (f : Nat → Int32) (v : Int32), h.2.2.2.2.1 a = some (n, f) ∧ vp_in i n ∧ f i.toNatClampNeg = v ∧ Q v
def bs_xl (h : bs_H) (a : Nat) (Q : Int32 → Prop) : Prop := ∃ (n : Nat) (f : Nat → Int32) (v : Int32), h.2.2.2.2.1 a = some (n, f) ∧ Int32.ofNat n = v ∧ Q v
def bs_tk (h : bs_H) (Q : Nat → Prop) : Prop := ∃ v : Nat, h.2.2.2.2.2 = v ∧ Q v
def bs_sI (h : bs_H) (a : Nat) (i x : Int32) (Q : bs_H → Prop) : Prop := ∃ (n : Nat) (f : Nat → Int32), h.1 a = some (bs_ia n f) ∧ vp_in i n ∧ Q (bs_set h a (bs_ia n (va_up f i.toNatClampNeg x)))
def bs_sL (h : bs_H) (a : Nat) (i : Int32) (x : Int64) (Q : bs_H → Prop) : Prop := ∃ (n : Nat) (f : Nat → Int64), h.1 a = some (bs_la n f) ∧ vp_in i n ∧ Q (bs_set h a (bs_la n (va_up f i.toNatClampNeg x)))
def bs_sZ (h : bs_H) (a : Nat) (i x : Int32) (Q : bs_H → Prop) : Prop := ∃ (n : Nat) (f : Nat → Int32), h.1 a = some (bs_za n f) ∧ vp_in i n ∧ narrow .boolean (.int x) = .int x ∧ Q (bs_set h a (bs_za n (va_up f i.toNatClampNeg x)))
def bs_sA (h : bs_H) (a : Nat) (i : Int32) (b : Nat) (Q : bs_H → Prop) : Prop := ∃ (n : Nat) (f : Nat → Option Nat) (vs : List Value), h.1 a = some (bs_ra n f) ∧ vp_in i n ∧ h.1 b = some (bs_obj 1 vs) ∧ Q (bs_set h a (bs_ra n (va_up f i.toNatClampNeg (some b))))
def bs_nO (h : bs_H) (ci N : Nat) (fs : List Value) (Q : Nat → bs_H → Prop) : Prop := ∃ a : Nat, h.2.1 = some a ∧ 1 ≤ h.2.2.1 ∧ N ≤ h.2.2.2.1 ∧ Q a (bs_push h a N (bs_obj ci fs))
def bs_nA (h : bs_H) (N : Nat) (x : bs_E) (Q : Nat → bs_H → Prop) : Prop := ∃ a : Nat, h.2.1 = some a ∧ 1 ≤ h.2.2.1 ∧ N ≤ h.2.2.2.1 ∧ Q a (bs_push h a N x)
def bs_on (h : bs_H) (a ci : Nat) (Q : Prop) : Prop := (∃ fs : List Value, h.1 a = some (bs_obj ci fs)) ∧ Q
def bs_th (h : bs_H) (Φ : bs_R → bs_H → Prop) (X : String) : Prop := 1 ≤ h.2.2.1 ∧ 6 ≤ h.2.2.2.1 ∧ Φ (.error X) (bs_thrown h)
def bs_rZ (Φ : bs_R → bs_H → Prop) (v : Int32) (h : bs_H) : Prop := narrow .boolean (.int v) = .int v ∧ Φ (.ok (some (.int v))) h
def bs_cp (h : bs_H) (a0 : Nat) (sp : Int32) (a1 : Nat) (dp n : Int32) (Q : bs_H → Prop) : Prop := ∃ (n0 : Nat) (f : Nat → Int32) (n1 : Nat) (g : Nat → Int32), h.1 a0 = some (bs_ia n0 f) ∧ h.1 a1 = some (bs_ia n1 g) ∧ a0 ≠ a1 ∧ ¬ sp < 0 ∧ ¬ dp < 0 ∧ ¬ n < 0 ∧ sp.toNatClampNeg + n.toNatClampNeg ≤ n0 ∧ dp.toNatClampNeg + n.toNatClampNeg ≤ n1 ∧ Q (bs_set h a1 (bs_ia n1 (va_cpy f g sp.toNatClampNeg dp.toNatClampNeg n.toNatClampNeg)))
/-- a method with handlers: what it does with what is thrown -/
def bs_hd (P : String → bs_H → Prop) (r : bs_R) (h : bs_H) : Prop := match r with
  | .error X => P X h
  | .ok _ => False
abbrev bs_up2 : List String := ["java/lang/RuntimeException", "java/lang/Exception"]
theorem bj_ldcw {l : Launch} {K : bs_K} {R : Room} {Φ : bs_R → bs_H → Prop} {pc : Nat} {lo : List (Nat × Value)} {st : List Value} {h : bs_H} {index : Nat} {v : Int32} (d : decode K.2.1 pc = .ok (.ldc_w index, 3)) (hw : Cond.constant K.1 index v ∈ bs_WS) (k : bs_J l K R Φ (pc + 3) lo (.int v :: st) h) : bs_J l K R Φ pc lo st h := by
  intro D p e s m args below meth c F H locs cells slots ls hX hG hc hs hl
  exact lv_ldcw hX.1 hX.2.1 hX.2.2.2.1 (hX.2.2.2.2.1 _ hw) d (k D p e s m args below meth c F H locs cells slots ls hX hG hc hs hl)

/-! A walk told anew from where it stands: the state in which it stands serves as the invocation's. -/
theorem bs_arr_moved {u U : State} (hvm : u.vm.Alike U.vm) {c : Cell} {t : FieldType} (h : u.isArrayOf c t) : U.isArrayOf c t := by
  obtain ⟨h1, k, hk, comp, hkind⟩ := h
  obtain ⟨k', hk', he⟩ := hvm.2.2 _ _ hk
  exact ⟨h1, k', hk', comp, by rw [he]; exact hkind⟩
theorem bs_T_back {ty : FieldType} {t N : Nat} {f : Nat → Value} {F : Addr → Prop} {U : State} {H H1 : Heap} (hF : ∀ a : Nat, H1.size ≤ a → F a) (hfr : ∀ q : Nat, q < H1.size → ¬ F q → H[q]? = H1[q]?) (h : va_T ty t N f F U H) : va_T ty t N f F U H1 := by
  obtain ⟨cell, h1, h2, h3, h4, h5, h6, h7⟩ := h
  have hl : t < H1.size := Nat.lt_of_not_le fun q => h7 (hF t q)
  exact ⟨cell, (hfr t hl h7).symm.trans h1, h2, h3, h4, h5, h6, h7⟩
theorem bs_LS.moved {C n d : String} {F : Addr → Prop} {u U : State} {H : Heap} (hvm : u.vm.Alike U.vm) (h : bs_LS C n d F u H) : bs_LS C n d F U H := by
  obtain ⟨c, k, i, f, a, cell, h1, h2, h3, h4, h5, h6, h7, h8, h9, h10⟩ := h
  obtain ⟨k', hi', hek⟩ := State.fieldFound?_setVm hvm h2
  exact ⟨c, k', i, f, a, cell, by rw [hvm.findClass]; exact h1, hi', h3, by rw [hek]; exact h4, h5, h6, h7, h8, by rw [hek]; exact h9, h10⟩
theorem bs_LS.kept {C n d : String} {F : Addr → Prop} {U : State} {H H1 : Heap} (h : bs_LS C n d F U H) (hq : ∀ a : Nat, a < H.size → ¬ F a → H1[a]? = H[a]?) : bs_LS C n d F U H1 := by
  obtain ⟨c, k, i, f, a, cell, h1, h2, h3, h4, h5, h6, h7, h8, h9, h10⟩ := h
  exact ⟨c, k, i, f, a, cell, h1, h2, h3, h4, (hq a (Array.getElem?_eq_some_iff.mp h5).1 h10).trans h5, h6, h7, h8, h9, h10⟩
theorem bs_LS.back {C n d : String} {F : Addr → Prop} {U : State} {H H1 : Heap} (hF : ∀ a : Nat, H1.size ≤ a → F a) (hfr : ∀ q : Nat, q < H1.size → ¬ F q → H[q]? = H1[q]?) (h : bs_LS C n d F U H) : bs_LS C n d F U H1 := by
  obtain ⟨c, k, i, f, a, cell, h1, h2, h3, h4, h5, h6, h7, h8, h9, h10⟩ := h
  have hl : a < H1.size := Nat.lt_of_not_le fun q => h10 (hF a q)
  exact ⟨c, k, i, f, a, cell, h1, h2, h3, h4, (hfr a hl h10).symm.trans h5, h6, h7, h8, h9, h10⟩
theorem bs_LS.use {C n d : String} {F : Addr → Prop} {s : State} {args : Array Value} (h : bs_LS C n d F s s.heap) : (Cond.laysStatic C n d).before args s = true := by
  obtain ⟨c, k, i, f, a, cell, h1, h2, h3, h4, h5, h6, h7, h8, h9, -⟩ := h
  exact Cond.laysStatic_of h1 h2 h3 h4 h5 h6 h7 h8 h9
theorem bs_Env.fore {F : Addr → Prop} {s t : State} {v : bs_V} (hvm : s.vm.Alike t.vm) (hz : s.heap.size ≤ t.heap.size) (hfr : ∀ q : Nat, q < s.heap.size → ¬ F q → t.heap[q]? = s.heap[q]?) (h : bs_Env F s v) : bs_Env F t v := by
  obtain ⟨h1, h2, h3, h4, h5, h6⟩ := h
  refine ⟨fun a n f ha => ?_, (h2.moved hvm).kept hfr, (h3.moved hvm).kept hfr, (h4.moved hvm).kept hfr, (h5.moved hvm).kept hfr, (h6.moved hvm).kept hfr⟩
  exact ((h1 a n f ha).moved hvm).kept hfr
theorem bs_Z_back {C n d : String} {v : Value} {F : Addr → Prop} {U : State} {H H1 : Heap} (hF : ∀ a : Nat, H1.size ≤ a → F a) (hfr : ∀ q : Nat, q < H1.size → ¬ F q → H[q]? = H1[q]?) (h : va_Z C n d v F U H) : va_Z C n d v F U H1 := by
  obtain ⟨cf, kf, fi, f, a, cell, h1, h2, h3, h4, h5, h6, h7, h8⟩ := h
  have hl : a < H1.size := Nat.lt_of_not_le fun q => h8 (hF a q)
  exact ⟨cf, kf, fi, f, a, cell, h1, h2, h3, h4, (hfr a hl h8).symm.trans h5, h6, h7, h8⟩
theorem bs_Zq_back {C n d : String} {F : Addr → Prop} {U : State} {H H1 : Heap} (hF : ∀ a : Nat, H1.size ≤ a → F a) (hfr : ∀ q : Nat, q < H1.size → ¬ F q → H[q]? = H1[q]?) (h : va_Zq C n d F U H) : va_Zq C n d F U H1 := by
  rcases h with h | ⟨t, h⟩
  · exact Or.inl (bs_Z_back hF hfr h)
  · exact Or.inr ⟨t, bs_Z_back hF hfr h⟩
theorem bs_Env.back {F : Addr → Prop} {s t : State} {v : bs_V} (hvm : t.vm.Alike s.vm) (hF : ∀ a : Nat, s.heap.size ≤ a → F a) (hfr : ∀ q : Nat, q < s.heap.size → ¬ F q → t.heap[q]? = s.heap[q]?) (h : bs_Env F t v) : bs_Env F s v := by
  obtain ⟨h1, h2, h3, h4, h5, h6⟩ := h
  refine ⟨fun a n f ha => ?_, bs_Z_back hF hfr (h2.moved hvm), bs_Zq_back hF hfr (h3.moved hvm), bs_Zq_back hF hfr (h4.moved hvm), (h5.moved hvm).back hF hfr, (h6.moved hvm).back hF hfr⟩
  exact bs_T_back hF hfr ((h1 a n f ha).moved hvm)
/-- into a state that has the heap as it stands -/
theorem bs_G.fore {D : bs_D} {F : Addr → Prop} {s t : State} {h : bs_H} {H : Heap} {locs : List Loc} (hG : bs_G D F s h H locs) (hvm : s.vm.Alike t.vm) (hH : t.heap = H) : bs_G D F t h H [] := by
  obtain ⟨g1, g2, g3, g4, g5, g6, g7, g8, g9⟩ := hG
  subst hH
  exact ⟨g1, g2, g3, fun a ha => g4 a (Nat.le_trans g5 ha), Nat.le_refl _, fun q hq => (by cases hq), fun _ _ _ => rfl, g8, g9.fore hvm g5 g7⟩
/-- and back -/
theorem bs_G.back {D : bs_D} {F : Addr → Prop} {s t : State} {h h' : bs_H} {H H' : Heap} {locs L : List Loc} (hG : bs_G D F s h H locs) (hvm : t.vm.Alike s.vm) (hH : t.heap = H) (hB : bs_G D F t h' H' L) : bs_G D F s h' H' (locs ++ L) := by
  obtain ⟨g1, g2, g3, g4, g5, g6, g7, g8, g9⟩ := hG
  obtain ⟨b1, b2, b3, b4, b5, b6, b7, b8, b9⟩ := hB
  subst hH
  refine ⟨b1, b2, b3, g4, Nat.le_trans g5 b5, fun q hq => ?_, fun q h1 h2 => (b7 q (Nat.lt_of_lt_of_le h1 g5) h2).trans (g7 q h1 h2), b8, b9.back hvm g4 g7⟩
  rcases List.mem_append.mp hq with h1 | h1
  · exact g6 q h1
  · exact b6 q h1
section RE
variable {p : Program} {l : Launch} {e : Env} {R : Room} {s : State} {m : MethodId} {args : Array Value} {below : List Frame} {meth : Method} {c : Code} {T : State} {locs : List Loc} {cells slots : Nat}
def bs_re (T : State) (m : MethodId) (args : Array Value) (below : List Frame) : State := T.setFrames (.invoking m args :: below)
theorem bs_rebase (X : Stand p l e R s m args below meth c T locs cells slots) {R2 : Room} (h1 : R2.frames ≤ R.frames) (h2 : R2.locals ≤ R.locals) (h3 : cells + R2.cells ≤ R.cells) (h4 : slots + R2.slots ≤ R.slots) : Stand p l e R2 (bs_re T m args below) m args below meth c T [] 0 0 := by
  obtain ⟨g₀, hfr⟩ := X.frames_eq
  have hcur : T.cur < T.threads.size := State.cur_lt_of_frames hfr
  have hf : (bs_re T m args below).frames = .invoking m args :: below := State.frames_setFrames _ hcur
  obtain ⟨th, hth, -⟩ := State.frames_cons hfr
  obtain ⟨th2, hth2, -⟩ := State.frames_cons hf
  have hcur2 : (bs_re T m args below).cur < (bs_re T m args below).threads.size := State.cur_lt_of_frames hf
  have hback : T = (bs_re T m args below).setFrames T.frames := by
    unfold bs_re
    rw [State.setFrames_setFrames, State.setFrames_self hth]
  refine ⟨X.admits, X.cas, X.clock, hf, ?_, ?_, X.method', X.code, X.here, X.tail, State.WarmedH.refl (bs_re T m args below), ?_, ?_, ?_⟩
  · have hr := X.room
    have k1 := State.localsInUse_invoking X.frames X.method X.code
    have k2 := State.localsInUse_invoking hf X.method' X.code
    have k3 : (bs_re T m args below).me.stackBytes = s.me.stackBytes := (State.stackBytes_setFrames _ _).trans X.bytes
    have k4 : e.platform.stackLimits (bs_re T m args below).me = e.platform.stackLimits s.me := (State.stackLimits_setFrames _ _ _).trans X.limits
    have k5 : (bs_re T m args below).slotsTrue = true := X.book
    have k6 := X.heapSize
    have k7 := X.used
    have k8 : (bs_re T m args below).heap = T.heap := rfl
    have k9 : (bs_re T m args below).slotsUsed = T.slotsUsed := rfl
    simp only [State.hasRoom, Bool.and_eq_true, decide_eq_true_eq] at hr ⊢
    rw [X.frames, k1] at hr
    rw [hf, k2, k3, k4, k8, k9]
    simp only [List.length_cons] at hr ⊢
    obtain ⟨⟨⟨⟨q1, q2, q3, q4, q5, q6⟩, q7⟩, q8⟩, q9⟩ := hr
    refine ⟨⟨⟨⟨?_, ?_, ?_, ?_, ?_, q6⟩, ?_⟩, ?_⟩, k5⟩ <;> omega
  · have hh := X.hears
    have hm := X.warmed.alike.method?
    rcases below with _ | ⟨y, r⟩
    · simp only [State.hears] at hh ⊢
      show (T.vm.method? m).any _ = true
      rw [hm]; exact hh
    · cases y <;> simp only [State.hears, State.code?_eq] at hh ⊢ <;>
        first
        | rfl
        | (show Option.isSome (((T.vm.method? _).bind _).bind _) = true; rw [hm]; exact hh)
        | (show (T.vm.method? m).any _ = true; rw [hm]; exact hh)
  · exact (State.stackLimits_setFrames _ _ _).symm
  · exact (State.stackBytes_setFrames _ _).symm
  · have h := (State.sameButNew.refl (bs_re T m args below) hth2).setFrames T.frames hcur2
    rw [← hback] at h
    exact h
theorem bs_unbase (X : Stand p l e R s m args below meth c T locs cells slots) {R2 : Room} {T' : State} {L : List Loc} {k n : Nat} (Y : Stand p l e R2 (bs_re T m args below) m args below meth c T' L k n) : Stand p l e R s m args below meth c T' (locs ++ L) (cells + k) (slots + n) := by
  refine X.moved Y.here Y.tail (Y.limits.trans (State.stackLimits_setFrames _ _ _)) (Y.bytes.trans (State.stackBytes_setFrames _ _)) Y.warmed ?_
  obtain ⟨h1, h2⟩ := Y.same
  refine ⟨?_, h2⟩
  have h3 := h1
  unfold bs_re at h3
  rw [State.setFrames_setFrames] at h3
  exact h3
end RE
theorem bs_K_at {D : bs_D} {s U : State} (hvm : s.vm.Alike U.vm) (h : va_K D.1 bs_cl (bs_tys D) s) : va_K D.1 bs_cl (bs_tys D) U := h.moved hvm
theorem bs_ws_at {args a' : Array Value} {s U : State} (hW : s.WarmedH U.vm) (h : ∀ w ∈ bs_WS, w.before args s = true) : ∀ w ∈ bs_WS, w.before a' U = true := fun w hw => bs_carry (bs_good w hw) hW (h w hw)
theorem bs_steps_up {tb : Tables} {e : Env} {mid below : List Frame} {s t : State} (h : Steps tb e (mid ++ below) s t) : Steps tb e below s t := by
  obtain ⟨n, h1, h2⟩ := h
  exact ⟨n, h1, fun k hk => Within.weaken (mid := mid) (h2 k hk)⟩

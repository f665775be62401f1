/-! Names: the classes with their fields, the words by their places, the methods. Written by program. -/
def bs_okw : Cond → Bool
  | .methodLinkNest .. => true
  | .castable .. => true
  | .declares _ => true
  | .arrayOver (.object _) => true
  | w => goodWord w
/-- the words that stay true as the tables grow warmer -/
def bs_WS : List Cond := lw_tbl.filter bs_okw
theorem bs_at {w : Cond} (i : Nat) (h : lw_tbl[i]? = some w) (hk : bs_okw w = true) : w ∈ bs_WS := List.mem_filter.mpr ⟨List.mem_of_getElem? h, hk⟩
theorem bs_pickW {l : List Cond} (ks : List Nat) (h : l = ks.filterMap (fun i => lw_tbl[i]?)) (hk : l.all bs_okw = true) : ∀ w ∈ l, w ∈ bs_WS := by
  intro w hw
  have h1 := List.all_eq_true.mp hk w hw
  rw [h] at hw
  obtain ⟨i, -, hi⟩ := List.mem_filterMap.mp hw
  exact bs_at i hi h1
def T_B : u_T := fun k => match k with
  | 0 => ("BitShuffler", "map", "LBitShuffler$BitMap;", true)
  | 1 => ("BitShuffler", "former", "LBitShuffler$BitMap;", true)
  | 2 => ("BitShuffler", "kept", "[LBitShuffler$BitMap;", true)
  | 3 => ("BitShuffler", "keptCount", "I", false)
  | 4 => ("BitShuffler", "program", "LBitShuffler$Program;", true)
  | 5 => ("BitShuffler", "machine", "LBitShuffler$WordMachine;", true)
  | 6 => ("BitShuffler", "symbols", "LBitShuffler$Symbols;", true)
  | 7 => ("BitShuffler", "swapPlan", "LBitShuffler$SwapPlan;", true)
  | _ => ("BitShuffler", "gatherPlan", "LBitShuffler$GatherPlan;", true)
def t_B : Nat → FieldType := fun k => match k with
  | 0 => (.object "BitShuffler$BitMap")
  | 1 => (.object "BitShuffler$BitMap")
  | 2 => (.array (.object "BitShuffler$BitMap"))
  | 3 => .int
  | 4 => (.object "BitShuffler$Program")
  | 5 => (.object "BitShuffler$WordMachine")
  | 6 => (.object "BitShuffler$Symbols")
  | 7 => (.object "BitShuffler$SwapPlan")
  | _ => (.object "BitShuffler$GatherPlan")
def cl_B : vw_C := ("BitShuffler", T_B, 9)
theorem tt_B : ∀ k, k < 9 → parseFieldDescriptor (T_B k).2.2.1 = some (t_B k) := by decide +kernel
theorem tn_B : ∀ a, a < 9 → ∀ b, b < 9 → a ≠ b → (T_B a).2.1 ≠ (T_B b).2.1 := by decide +kernel
def z_B : List Value := [.null, .null, .null, .int 0, .null, .null, .null, .null, .null]
theorem zz_B : ∀ j, j < 9 → defaultValue (t_B j) = vp_V z_B j := by decide +kernel
theorem tw_B : ∀ w ∈ u_ws "BitShuffler" T_B 9, w ∈ bs_WS := bs_pickW [205, 207, 209, 211, 213, 215, 217, 219, 221] (by decide +kernel) (by decide +kernel)
def T_M : u_T := fun k => match k with
  | 0 => ("BitShuffler$BitMap", "sources", "[I", true)
  | _ => ("BitShuffler$BitMap", "bits", "I", false)
def t_M : Nat → FieldType := fun k => match k with
  | 0 => (.array .int)
  | _ => .int
def cl_M : vw_C := ("BitShuffler$BitMap", T_M, 2)
theorem tt_M : ∀ k, k < 2 → parseFieldDescriptor (T_M k).2.2.1 = some (t_M k) := by decide +kernel
theorem tn_M : ∀ a, a < 2 → ∀ b, b < 2 → a ≠ b → (T_M a).2.1 ≠ (T_M b).2.1 := by decide +kernel
def z_M : List Value := [.null, .int 0]
theorem zz_M : ∀ j, j < 2 → defaultValue (t_M j) = vp_V z_M j := by decide +kernel
theorem tw_M : ∀ w ∈ u_ws "BitShuffler$BitMap" T_M 2, w ∈ bs_WS := bs_pickW [80, 82] (by decide +kernel) (by decide +kernel)
def T_P : u_T := fun k => match k with
  | 0 => ("BitShuffler$Program", "ops", "[I", true)
  | 1 => ("BitShuffler$Program", "amounts", "[I", true)
  | 2 => ("BitShuffler$Program", "masks", "[J", true)
  | _ => ("BitShuffler$Program", "length", "I", false)
def t_P : Nat → FieldType := fun k => match k with
  | 0 => (.array .int)
  | 1 => (.array .int)
  | 2 => (.array .long)
  | _ => .int
def cl_P : vw_C := ("BitShuffler$Program", T_P, 4)
theorem tt_P : ∀ k, k < 4 → parseFieldDescriptor (T_P k).2.2.1 = some (t_P k) := by decide +kernel
theorem tn_P : ∀ a, a < 4 → ∀ b, b < 4 → a ≠ b → (T_P a).2.1 ≠ (T_P b).2.1 := by decide +kernel
def z_P : List Value := [.null, .null, .null, .int 0]
theorem zz_P : ∀ j, j < 4 → defaultValue (t_P j) = vp_V z_P j := by decide +kernel
theorem tw_P : ∀ w ∈ u_ws "BitShuffler$Program" T_P 4, w ∈ bs_WS := bs_pickW [97, 99, 101, 103] (by decide +kernel) (by decide +kernel)
def T_W : u_T := fun k => match k with
  | 0 => ("BitShuffler$WordMachine", "bits", "I", false)
  | 1 => ("BitShuffler$WordMachine", "a", "J", false)
  | 2 => ("BitShuffler$WordMachine", "t", "J", false)
  | _ => ("BitShuffler$WordMachine", "\x72", "J", false)
def t_W : Nat → FieldType := fun k => match k with
  | 0 => .int
  | 1 => .long
  | 2 => .long
  | _ => .long
def cl_W : vw_C := ("BitShuffler$WordMachine", T_W, 4)
theorem tt_W : ∀ k, k < 4 → parseFieldDescriptor (T_W k).2.2.1 = some (t_W k) := by decide +kernel
theorem tn_W : ∀ a, a < 4 → ∀ b, b < 4 → a ≠ b → (T_W a).2.1 ≠ (T_W b).2.1 := by decide +kernel
def z_W : List Value := [.int 0, .long 0, .long 0, .long 0]
theorem zz_W : ∀ j, j < 4 → defaultValue (t_W j) = vp_V z_W j := by decide +kernel
theorem tw_W : ∀ w ∈ u_ws "BitShuffler$WordMachine" T_W 4, w ∈ bs_WS := bs_pickW [117, 119, 121, 123] (by decide +kernel) (by decide +kernel)
def T_S : u_T := fun k => match k with
  | 0 => ("BitShuffler$Symbols", "a", "[J", true)
  | 1 => ("BitShuffler$Symbols", "t", "[J", true)
  | 2 => ("BitShuffler$Symbols", "\x72", "[J", true)
  | 3 => ("BitShuffler$Symbols", "ones", "J", false)
  | _ => ("BitShuffler$Symbols", "bits", "I", false)
def t_S : Nat → FieldType := fun k => match k with
  | 0 => (.array .long)
  | 1 => (.array .long)
  | 2 => (.array .long)
  | 3 => .long
  | _ => .int
def cl_S : vw_C := ("BitShuffler$Symbols", T_S, 5)
theorem tt_S : ∀ k, k < 5 → parseFieldDescriptor (T_S k).2.2.1 = some (t_S k) := by decide +kernel
theorem tn_S : ∀ a, a < 5 → ∀ b, b < 5 → a ≠ b → (T_S a).2.1 ≠ (T_S b).2.1 := by decide +kernel
def z_S : List Value := [.null, .null, .null, .long 0, .int 0]
theorem zz_S : ∀ j, j < 5 → defaultValue (t_S j) = vp_V z_S j := by decide +kernel
theorem tw_S : ∀ w ∈ u_ws "BitShuffler$Symbols" T_S 5, w ∈ bs_WS := bs_pickW [137, 139, 141, 143, 145] (by decide +kernel) (by decide +kernel)
def T_X : u_T := fun k => match k with
  | 0 => ("BitShuffler$SwapPlan", "wanted", "[I", true)
  | 1 => ("BitShuffler$SwapPlan", "wanters", "[I", true)
  | 2 => ("BitShuffler$SwapPlan", "lastMasks", "[J", true)
  | 3 => ("BitShuffler$SwapPlan", "bits", "I", false)
  | 4 => ("BitShuffler$SwapPlan", "decided", "J", false)
  | 5 => ("BitShuffler$SwapPlan", "goingThroughUpper", "J", false)
  | _ => ("BitShuffler$SwapPlan", "comingThroughUpper", "J", false)
def t_X : Nat → FieldType := fun k => match k with
  | 0 => (.array .int)
  | 1 => (.array .int)
  | 2 => (.array .long)
  | 3 => .int
  | 4 => .long
  | 5 => .long
  | _ => .long
def cl_X : vw_C := ("BitShuffler$SwapPlan", T_X, 7)
theorem tt_X : ∀ k, k < 7 → parseFieldDescriptor (T_X k).2.2.1 = some (t_X k) := by decide +kernel
theorem tn_X : ∀ a, a < 7 → ∀ b, b < 7 → a ≠ b → (T_X a).2.1 ≠ (T_X b).2.1 := by decide +kernel
def z_X : List Value := [.null, .null, .null, .int 0, .long 0, .long 0, .long 0]
theorem zz_X : ∀ j, j < 7 → defaultValue (t_X j) = vp_V z_X j := by decide +kernel
theorem tw_X : ∀ w ∈ u_ws "BitShuffler$SwapPlan" T_X 7, w ∈ bs_WS := bs_pickW [161, 163, 165, 167, 169, 171, 173] (by decide +kernel) (by decide +kernel)
def T_G : u_T := fun k => match k with
  | 0 => ("BitShuffler$GatherPlan", "groupSources", "[J", true)
  | 1 => ("BitShuffler$GatherPlan", "groupBits", "[J", true)
  | _ => ("BitShuffler$GatherPlan", "groups", "I", false)
def t_G : Nat → FieldType := fun k => match k with
  | 0 => (.array .long)
  | 1 => (.array .long)
  | _ => .int
def cl_G : vw_C := ("BitShuffler$GatherPlan", T_G, 3)
theorem tt_G : ∀ k, k < 3 → parseFieldDescriptor (T_G k).2.2.1 = some (t_G k) := by decide +kernel
theorem tn_G : ∀ a, a < 3 → ∀ b, b < 3 → a ≠ b → (T_G a).2.1 ≠ (T_G b).2.1 := by decide +kernel
def z_G : List Value := [.null, .null, .int 0]
theorem zz_G : ∀ j, j < 3 → defaultValue (t_G j) = vp_V z_G j := by decide +kernel
theorem tw_G : ∀ w ∈ u_ws "BitShuffler$GatherPlan" T_G 3, w ∈ bs_WS := bs_pickW [185, 187, 189] (by decide +kernel) (by decide +kernel)
def T_R : u_T := fun k => match k with
  | 0 => ("BitShufflerModel", "thrown", "I", false)
  | 1 => ("BitShufflerModel", "width", "I", false)
  | 2 => ("BitShufflerModel", "map", "[I", false)
  | 3 => ("BitShufflerModel", "steps", "I", false)
  | 4 => ("BitShufflerModel", "ops", "[I", false)
  | 5 => ("BitShufflerModel", "amounts", "[I", false)
  | 6 => ("BitShufflerModel", "masks", "[J", false)
  | 7 => ("BitShufflerModel", "kept", "I", false)
  | 8 => ("BitShufflerModel", "keptWidth", "[I", false)
  | 9 => ("BitShufflerModel", "keptMap", "[I", false)
  | 10 => ("BitShufflerModel", "a", "[J", false)
  | 11 => ("BitShufflerModel", "t", "[J", false)
  | 12 => ("BitShufflerModel", "\x72", "[J", false)
  | 13 => ("BitShufflerModel", "rOne", "[Z", false)
  | 14 => ("BitShufflerModel", "old", "[J", false)
  | 15 => ("BitShufflerModel", "wants", "[I", false)
  | 16 => ("BitShufflerModel", "later", "[I", false)
  | 17 => ("BitShufflerModel", "comes", "[I", false)
  | 18 => ("BitShufflerModel", "goes", "[I", false)
  | 19 => ("BitShufflerModel", "firsts", "[J", false)
  | 20 => ("BitShufflerModel", "lasts", "[J", false)
  | 21 => ("BitShufflerModel", "lastSource", "[I", false)
  | 22 => ("BitShufflerModel", "groupSources", "[J", false)
  | 23 => ("BitShufflerModel", "groupBits", "[J", false)
  | 24 => ("BitShufflerModel", "swaps", "[I", false)
  | 25 => ("BitShufflerModel", "order", "[I", false)
  | _ => ("BitShufflerModel", "taken", "[I", false)
def t_R : Nat → FieldType := fun k => match k with
  | 0 => .int
  | 1 => .int
  | 2 => (.array .int)
  | 3 => .int
  | 4 => (.array .int)
  | 5 => (.array .int)
  | 6 => (.array .long)
  | 7 => .int
  | 8 => (.array .int)
  | 9 => (.array .int)
  | 10 => (.array .long)
  | 11 => (.array .long)
  | 12 => (.array .long)
  | 13 => (.array .boolean)
  | 14 => (.array .long)
  | 15 => (.array .int)
  | 16 => (.array .int)
  | 17 => (.array .int)
  | 18 => (.array .int)
  | 19 => (.array .long)
  | 20 => (.array .long)
  | 21 => (.array .int)
  | 22 => (.array .long)
  | 23 => (.array .long)
  | 24 => (.array .int)
  | 25 => (.array .int)
  | _ => (.array .int)
def cl_R : vw_C := ("BitShufflerModel", T_R, 27)
theorem tt_R : ∀ k, k < 27 → parseFieldDescriptor (T_R k).2.2.1 = some (t_R k) := by decide +kernel
theorem tn_R : ∀ a, a < 27 → ∀ b, b < 27 → a ≠ b → (T_R a).2.1 ≠ (T_R b).2.1 := by decide +kernel
def z_R : List Value := [.int 0, .int 0, .null, .int 0, .null, .null, .null, .int 0, .null, .null, .null, .null, .null, .null, .null, .null, .null, .null, .null, .null, .null, .null, .null, .null, .null, .null, .null]
theorem zz_R : ∀ j, j < 27 → defaultValue (t_R j) = vp_V z_R j := by decide +kernel
theorem tw_R : ∀ w ∈ u_ws "BitShufflerModel" T_R 27, w ∈ bs_WS := bs_pickW [775, 777, 779, 781, 783, 785, 787, 789, 791, 793, 795, 797, 799, 801, 803, 805, 807, 809, 811, 813, 815, 817, 819, 821, 823, 825, 827] (by decide +kernel) (by decide +kernel)
abbrev bs_cl : List vw_C := [cl_B, cl_M, cl_P, cl_W, cl_S, cl_X, cl_G, cl_R]
theorem bs_ok (ci : Nat) (q : vw_C) (h : bs_cl[ci]? = some q) : (∀ w ∈ u_ws q.1 q.2.1 q.2.2, w ∈ bs_WS) ∧ ∃ ty0 : Nat → FieldType, (∀ k, k < q.2.2 → parseFieldDescriptor (q.2.1 k).2.2.1 = some (ty0 k)) ∧ ∀ a, a < q.2.2 → ∀ b, b < q.2.2 → a ≠ b → (q.2.1 a).2.1 ≠ (q.2.1 b).2.1 := by
  rcases ci with _ | _ | _ | _ | _ | _ | _ | _ | ci
  · cases h; exact ⟨tw_B, t_B, tt_B, tn_B⟩
  · cases h; exact ⟨tw_M, t_M, tt_M, tn_M⟩
  · cases h; exact ⟨tw_P, t_P, tt_P, tn_P⟩
  · cases h; exact ⟨tw_W, t_W, tt_W, tn_W⟩
  · cases h; exact ⟨tw_S, t_S, tt_S, tn_S⟩
  · cases h; exact ⟨tw_X, t_X, tt_X, tn_X⟩
  · cases h; exact ⟨tw_G, t_G, tt_G, tn_G⟩
  · cases h; exact ⟨tw_R, t_R, tt_R, tn_R⟩
  · cases h
theorem bs_good : ∀ w ∈ bs_WS, bs_okw w = true := fun w hw => (List.mem_filter.mp hw).2
theorem bs_carry {w : Cond} (h : bs_okw w = true) {args a' : Array Value} {s U : State} (hW : s.WarmedH U.vm) (hb : w.before args s = true) : w.before a' U = true := by
  have key : goodWord w = true → w.before a' U = true := fun hg => word_at hW (good_of_word hg) hb
  cases w
  case methodLinkNest => exact va_Nw.use rfl (va_Nw.warmM hW (va_Nw.of rfl hb))
  case castable => exact va_Nw.use rfl (va_Nw.warmC hW (va_Nw.of rfl hb))
  case declares => exact va_Nw.use rfl (va_Nw.warmD hW (va_Nw.of rfl hb))
  case arrayOver t =>
    cases t
    case object C => exact va_AO.use (va_AO.moved hW.alike (va_AO.of hb))
    all_goals exact key h
  all_goals exact key h

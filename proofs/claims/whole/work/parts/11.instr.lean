/-! One row an instruction, over bs_J. -/
def bs_shl (x : Int64) (y : Int32) : Int64 := x <<< (y.toInt64 &&& 63)
def bs_shr (x : Int64) (y : Int32) : Int64 := x >>> (y.toInt64 &&& 63)
def bs_ushr (x : Int64) (y : Int32) : Int64 := (x.toUInt64 >>> (y.toInt64.toUInt64 &&& Int64.toUInt64 63)).toInt64
def bs_iushr (x y : Int32) : Int32 := (x.toUInt32 >>> (y.toUInt32 &&& Int32.toUInt32 31)).toInt32
theorem bs_lceq (x y : Int64) : lg_cmp x y = 0 ↔ x = y := by
  unfold lg_cmp
  constructor
  · intro h
    by_cases h1 : x > y
    · rw [if_pos h1] at h; exact absurd h (by decide)
    · rw [if_neg h1] at h
      by_cases h2 : x = y
      · exact h2
      · rw [if_neg h2] at h; exact absurd h (by decide)
  · intro h
    subst h
    rw [if_neg (by simp [Int64.lt_iff_toInt_lt]), if_pos rfl]
section BJ
variable {l : Launch} {K : bs_K} {R : Room} {Φ : bs_R → bs_H → Prop} {pc : Nat} {lo : List (Nat × Value)} {st : List Value} {h : bs_H}
theorem bj_of {pc' : Nat} {st' : List Value} (step : ∀ (p : Program) (l : Launch) (e : Env) (R : Room) (s : State) (m : MethodId) (args : Array Value) (below : List Frame) (meth : Method) (c : Code) (H : Heap) (locs : List Loc) (cells slots : Nat) (Q : State → Prop) (ls : Array Slot), p.tables.exec = Jvm.exec → c.code = K.2.1 → lv_has ls K.2.2.1 lo →
      W p l e R s m args below meth c H locs cells slots Q (F0 m pc' ls st') → W p l e R s m args below meth c H locs cells slots Q (F0 m pc ls st)) (k : bs_J l K R Φ pc' lo st' h) : bs_J l K R Φ pc lo st h := by
  intro D p e s m args below meth c F H locs cells slots ls hX hG hc hs hl
  exact step p l e R s m args below meth c H locs cells slots _ ls hX.1 hX.2.1 hl (k D p e s m args below meth c F H locs cells slots ls hX hG hc hs hl)
theorem bj_sub {lo' : List (Nat × Value)} (ks : List Nat) (hl : lv_pick lo ks = lo') (k : bs_J l K R Φ pc lo' st h) : bs_J l K R Φ pc lo st h := by
  intro D p e s m args below meth c F H locs cells slots ls hX hG hc hs hlo
  exact k D p e s m args below meth c F H locs cells slots ls hX hG hc hs (lv_sub hlo ks hl)
theorem bj_iconst {n : Int} {v : Int32} (d : decode K.2.1 pc = .ok (.iconst n, 1)) (hv : Int32.ofInt n = v) (k : bs_J l K R Φ (pc + 1) lo (.int v :: st) h) : bs_J l K R Φ pc lo (st) h := bj_of (fun _ _ _ _ _ _ _ _ _ _ _ _ _ _ _ _ hx hb hl w => lv_iconst hx hb d hv w) k
theorem bj_bipush {n : Int} {v : Int32} (d : decode K.2.1 pc = .ok (.bipush n, 2)) (hv : (Int8.ofInt n).toInt32 = v) (k : bs_J l K R Φ (pc + 2) lo (.int v :: st) h) : bs_J l K R Φ pc lo (st) h := bj_of (fun _ _ _ _ _ _ _ _ _ _ _ _ _ _ _ _ hx hb hl w => lv_bipush hx hb d hv w) k
theorem bj_sipush {n : Int} {v : Int32} (d : decode K.2.1 pc = .ok (.sipush n, 3)) (hv : (Int16.ofInt n).toInt32 = v) (k : bs_J l K R Φ (pc + 3) lo (.int v :: st) h) : bs_J l K R Φ pc lo (st) h := bj_of (fun _ _ _ _ _ _ _ _ _ _ _ _ _ _ _ _ hx hb hl w => lv_sipush hx hb d hv w) k
theorem bj_lconst {n : Fin 2} {v : Int64} (d : decode K.2.1 pc = .ok (.lconst n, 1)) (hv : Int64.ofNat (n : Nat) = v) (k : bs_J l K R Φ (pc + 1) lo (.long v :: st) h) : bs_J l K R Φ pc lo (st) h := bj_of (fun _ _ _ _ _ _ _ _ _ _ _ _ _ _ _ _ hx hb hl w => lv_lconst hx hb d hv w) k
theorem bj_iload_n {q : Fin 4} {i : Nat} {x : Int32} (kk : Nat) (d : decode K.2.1 pc = .ok (.iload_n q, 1)) (hi : (q : Nat) = i) (hv : lo[kk]? = some (i, .int x)) (k : bs_J l K R Φ (pc + 1) lo (.int x :: st) h) : bs_J l K R Φ pc lo (st) h := bj_of (fun _ _ _ _ _ _ _ _ _ _ _ _ _ _ _ _ hx hb hl w => lv_iload_n hx hb d hi (lv_at hl kk hv) w) k
theorem bj_iload {i : Nat} {x : Int32} (kk : Nat) (d : decode K.2.1 pc = .ok (.iload i, 2)) (hv : lo[kk]? = some (i, .int x)) (k : bs_J l K R Φ (pc + 2) lo (.int x :: st) h) : bs_J l K R Φ pc lo (st) h := bj_of (fun _ _ _ _ _ _ _ _ _ _ _ _ _ _ _ _ hx hb hl w => lv_iload hx hb d (lv_at hl kk hv) w) k
theorem bj_lload_n {q : Fin 4} {i : Nat} {x : Int64} (kk : Nat) (d : decode K.2.1 pc = .ok (.lload_n q, 1)) (hi : (q : Nat) = i) (hv : lo[kk]? = some (i, .long x)) (k : bs_J l K R Φ (pc + 1) lo (.long x :: st) h) : bs_J l K R Φ pc lo (st) h := bj_of (fun _ _ _ _ _ _ _ _ _ _ _ _ _ _ _ _ hx hb hl w => lv_lload_n hx hb d hi (lv_at hl kk hv) w) k
theorem bj_lload {i : Nat} {x : Int64} (kk : Nat) (d : decode K.2.1 pc = .ok (.lload i, 2)) (hv : lo[kk]? = some (i, .long x)) (k : bs_J l K R Φ (pc + 2) lo (.long x :: st) h) : bs_J l K R Φ pc lo (st) h := bj_of (fun _ _ _ _ _ _ _ _ _ _ _ _ _ _ _ _ hx hb hl w => lv_lload hx hb d (lv_at hl kk hv) w) k
theorem bj_aload_n {q : Fin 4} {i : Nat} {x : Nat} (kk : Nat) (d : decode K.2.1 pc = .ok (.aload_n q, 1)) (hi : (q : Nat) = i) (hv : lo[kk]? = some (i, .ref x)) (k : bs_J l K R Φ (pc + 1) lo (.ref x :: st) h) : bs_J l K R Φ pc lo (st) h := bj_of (fun _ _ _ _ _ _ _ _ _ _ _ _ _ _ _ _ hx hb hl w => lv_aload_n hx hb d hi (lv_at hl kk hv) w) k
theorem bj_aload {i : Nat} {x : Nat} (kk : Nat) (d : decode K.2.1 pc = .ok (.aload i, 2)) (hv : lo[kk]? = some (i, .ref x)) (k : bs_J l K R Φ (pc + 2) lo (.ref x :: st) h) : bs_J l K R Φ pc lo (st) h := bj_of (fun _ _ _ _ _ _ _ _ _ _ _ _ _ _ _ _ hx hb hl w => lv_aload hx hb d (lv_at hl kk hv) w) k
theorem bj_iadd {x y : Int32} (d : decode K.2.1 pc = .ok (.iadd, 1)) (k : bs_J l K R Φ (pc + 1) lo (.int (x + y) :: st) h) : bs_J l K R Φ pc lo (.int y :: .int x :: st) h := bj_of (fun _ _ _ _ _ _ _ _ _ _ _ _ _ _ _ _ hx hb hl w => lv_iadd hx hb d w) k
theorem bj_ladd {x y : Int64} (d : decode K.2.1 pc = .ok (.ladd, 1)) (k : bs_J l K R Φ (pc + 1) lo (.long (x + y) :: st) h) : bs_J l K R Φ pc lo (.long y :: .long x :: st) h := bj_of (fun _ _ _ _ _ _ _ _ _ _ _ _ _ _ _ _ hx hb hl w => lv_ladd hx hb d w) k
theorem bj_isub {x y : Int32} (d : decode K.2.1 pc = .ok (.isub, 1)) (k : bs_J l K R Φ (pc + 1) lo (.int (x - y) :: st) h) : bs_J l K R Φ pc lo (.int y :: .int x :: st) h := bj_of (fun _ _ _ _ _ _ _ _ _ _ _ _ _ _ _ _ hx hb hl w => lv_isub hx hb d w) k
theorem bj_lsub {x y : Int64} (d : decode K.2.1 pc = .ok (.lsub, 1)) (k : bs_J l K R Φ (pc + 1) lo (.long (x - y) :: st) h) : bs_J l K R Φ pc lo (.long y :: .long x :: st) h := bj_of (fun _ _ _ _ _ _ _ _ _ _ _ _ _ _ _ _ hx hb hl w => lv_lsub hx hb d w) k
theorem bj_imul {x y : Int32} (d : decode K.2.1 pc = .ok (.imul, 1)) (k : bs_J l K R Φ (pc + 1) lo (.int (x * y) :: st) h) : bs_J l K R Φ pc lo (.int y :: .int x :: st) h := bj_of (fun _ _ _ _ _ _ _ _ _ _ _ _ _ _ _ _ hx hb hl w => lv_imul hx hb d w) k
theorem bj_lmul {x y : Int64} (d : decode K.2.1 pc = .ok (.lmul, 1)) (k : bs_J l K R Φ (pc + 1) lo (.long (x * y) :: st) h) : bs_J l K R Φ pc lo (.long y :: .long x :: st) h := bj_of (fun _ _ _ _ _ _ _ _ _ _ _ _ _ _ _ _ hx hb hl w => lv_lmul hx hb d w) k
theorem bj_iand {x y : Int32} (d : decode K.2.1 pc = .ok (.iand, 1)) (k : bs_J l K R Φ (pc + 1) lo (.int (x &&& y) :: st) h) : bs_J l K R Φ pc lo (.int y :: .int x :: st) h := bj_of (fun _ _ _ _ _ _ _ _ _ _ _ _ _ _ _ _ hx hb hl w => lv_iand hx hb d w) k
theorem bj_land {x y : Int64} (d : decode K.2.1 pc = .ok (.land, 1)) (k : bs_J l K R Φ (pc + 1) lo (.long (x &&& y) :: st) h) : bs_J l K R Φ pc lo (.long y :: .long x :: st) h := bj_of (fun _ _ _ _ _ _ _ _ _ _ _ _ _ _ _ _ hx hb hl w => lv_land hx hb d w) k
theorem bj_ior {x y : Int32} (d : decode K.2.1 pc = .ok (.ior, 1)) (k : bs_J l K R Φ (pc + 1) lo (.int (x ||| y) :: st) h) : bs_J l K R Φ pc lo (.int y :: .int x :: st) h := bj_of (fun _ _ _ _ _ _ _ _ _ _ _ _ _ _ _ _ hx hb hl w => lv_ior hx hb d w) k
theorem bj_lor {x y : Int64} (d : decode K.2.1 pc = .ok (.lor, 1)) (k : bs_J l K R Φ (pc + 1) lo (.long (x ||| y) :: st) h) : bs_J l K R Φ pc lo (.long y :: .long x :: st) h := bj_of (fun _ _ _ _ _ _ _ _ _ _ _ _ _ _ _ _ hx hb hl w => lv_lor hx hb d w) k
theorem bj_ixor {x y : Int32} (d : decode K.2.1 pc = .ok (.ixor, 1)) (k : bs_J l K R Φ (pc + 1) lo (.int (x ^^^ y) :: st) h) : bs_J l K R Φ pc lo (.int y :: .int x :: st) h := bj_of (fun _ _ _ _ _ _ _ _ _ _ _ _ _ _ _ _ hx hb hl w => lv_ixor hx hb d w) k
theorem bj_lxor {x y : Int64} (d : decode K.2.1 pc = .ok (.lxor, 1)) (k : bs_J l K R Φ (pc + 1) lo (.long (x ^^^ y) :: st) h) : bs_J l K R Φ pc lo (.long y :: .long x :: st) h := bj_of (fun _ _ _ _ _ _ _ _ _ _ _ _ _ _ _ _ hx hb hl w => lv_lxor hx hb d w) k
theorem bj_idiv {x y : Int32} (d : decode K.2.1 pc = .ok (.idiv, 1)) (hy : ¬ y = 0) (k : bs_J l K R Φ (pc + 1) lo (.int (x / y) :: st) h) : bs_J l K R Φ pc lo (.int y :: .int x :: st) h := bj_of (fun _ _ _ _ _ _ _ _ _ _ _ _ _ _ _ _ hx hb hl w => lv_idiv hx hb d hy w) k
theorem bj_irem {x y : Int32} (d : decode K.2.1 pc = .ok (.irem, 1)) (hy : ¬ y = 0) (k : bs_J l K R Φ (pc + 1) lo (.int (x - x / y * y) :: st) h) : bs_J l K R Φ pc lo (.int y :: .int x :: st) h := bj_of (fun _ _ _ _ _ _ _ _ _ _ _ _ _ _ _ _ hx hb hl w => lv_irem hx hb d hy w) k
theorem bj_ineg {x : Int32} (d : decode K.2.1 pc = .ok (.ineg, 1)) (k : bs_J l K R Φ (pc + 1) lo (.int (-x) :: st) h) : bs_J l K R Φ pc lo (.int x :: st) h := bj_of (fun _ _ _ _ _ _ _ _ _ _ _ _ _ _ _ _ hx hb hl w => lv_ineg hx hb d w) k
theorem bj_ishl {x y : Int32} (d : decode K.2.1 pc = .ok (.ishl, 1)) (k : bs_J l K R Φ (pc + 1) lo (.int (x <<< (y &&& 31)) :: st) h) : bs_J l K R Φ pc lo (.int y :: .int x :: st) h := bj_of (fun _ _ _ _ _ _ _ _ _ _ _ _ _ _ _ _ hx hb hl w => lv_ishl hx hb d w) k
theorem bj_ishr {x y : Int32} (d : decode K.2.1 pc = .ok (.ishr, 1)) (k : bs_J l K R Φ (pc + 1) lo (.int (x >>> (y &&& 31)) :: st) h) : bs_J l K R Φ pc lo (.int y :: .int x :: st) h := bj_of (fun _ _ _ _ _ _ _ _ _ _ _ _ _ _ _ _ hx hb hl w => lv_ishr hx hb d w) k
theorem bj_iushr {x y : Int32} (d : decode K.2.1 pc = .ok (.iushr, 1)) (k : bs_J l K R Φ (pc + 1) lo (.int (bs_iushr x y) :: st) h) : bs_J l K R Φ pc lo (.int y :: .int x :: st) h := bj_of (fun _ _ _ _ _ _ _ _ _ _ _ _ _ _ _ _ hx hb hl w => lv_iushr hx hb d rfl w) k
theorem bj_lshl {x : Int64} {y : Int32} (d : decode K.2.1 pc = .ok (.lshl, 1)) (k : bs_J l K R Φ (pc + 1) lo (.long (bs_shl x y) :: st) h) : bs_J l K R Φ pc lo (.int y :: .long x :: st) h := bj_of (fun _ _ _ _ _ _ _ _ _ _ _ _ _ _ _ _ hx hb hl w => lv_lshl hx hb d rfl w) k
theorem bj_lshr {x : Int64} {y : Int32} (d : decode K.2.1 pc = .ok (.lshr, 1)) (k : bs_J l K R Φ (pc + 1) lo (.long (bs_shr x y) :: st) h) : bs_J l K R Φ pc lo (.int y :: .long x :: st) h := bj_of (fun _ _ _ _ _ _ _ _ _ _ _ _ _ _ _ _ hx hb hl w => lv_lshr hx hb d rfl w) k
theorem bj_lushr {x : Int64} {y : Int32} (d : decode K.2.1 pc = .ok (.lushr, 1)) (k : bs_J l K R Φ (pc + 1) lo (.long (bs_ushr x y) :: st) h) : bs_J l K R Φ pc lo (.int y :: .long x :: st) h := bj_of (fun _ _ _ _ _ _ _ _ _ _ _ _ _ _ _ _ hx hb hl w => lv_lushr hx hb d rfl w) k
theorem bj_i2l {x : Int32} (d : decode K.2.1 pc = .ok (.i2l, 1)) (k : bs_J l K R Φ (pc + 1) lo (.long x.toInt64 :: st) h) : bs_J l K R Φ pc lo (.int x :: st) h := bj_of (fun _ _ _ _ _ _ _ _ _ _ _ _ _ _ _ _ hx hb hl w => lv_i2l hx hb d rfl w) k
theorem bj_l2i {x : Int64} (d : decode K.2.1 pc = .ok (.l2i, 1)) (k : bs_J l K R Φ (pc + 1) lo (.int x.toInt32 :: st) h) : bs_J l K R Φ pc lo (.long x :: st) h := bj_of (fun _ _ _ _ _ _ _ _ _ _ _ _ _ _ _ _ hx hb hl w => lv_l2i hx hb d rfl w) k
theorem bj_dup {v : Value} (d : decode K.2.1 pc = .ok (.dup, 1)) (hv : v.category = 1) (k : bs_J l K R Φ (pc + 1) lo (v :: v :: st) h) : bs_J l K R Φ pc lo (v :: st) h := bj_of (fun _ _ _ _ _ _ _ _ _ _ _ _ _ _ _ _ hx hb hl w => lv_dup hx hb d hv w) k
theorem bj_pop {v : Value} (d : decode K.2.1 pc = .ok (.pop, 1)) (hv : v.category = 1) (k : bs_J l K R Φ (pc + 1) lo (st) h) : bs_J l K R Φ pc lo (v :: st) h := bj_of (fun _ _ _ _ _ _ _ _ _ _ _ _ _ _ _ _ hx hb hl w => lv_pop hx hb d hv w) k
theorem bj_dup_x1 {v w0 : Value} (d : decode K.2.1 pc = .ok (.dup_x1, 1)) (hv : v.category = 1) (hw0 : w0.category = 1) (k : bs_J l K R Φ (pc + 1) lo (v :: w0 :: v :: st) h) : bs_J l K R Φ pc lo (v :: w0 :: st) h := bj_of (fun _ _ _ _ _ _ _ _ _ _ _ _ _ _ _ _ hx hb hl w => lv_dup_x1 hx hb d hv hw0 w) k
theorem bj_dup2 {v w0 : Value} (d : decode K.2.1 pc = .ok (.dup2, 1)) (hv : v.category = 1) (hw0 : w0.category = 1) (k : bs_J l K R Φ (pc + 1) lo (v :: w0 :: v :: w0 :: st) h) : bs_J l K R Φ pc lo (v :: w0 :: st) h := bj_of (fun _ _ _ _ _ _ _ _ _ _ _ _ _ _ _ _ hx hb hl w => lv_dup2_11 hx hb d hv hw0 w) k
theorem bj_goto {off : Int} {tgt : Nat} (d : decode K.2.1 pc = .ok (.goto off, 3)) (ht : (pc : Int) + off = (tgt : Int)) (k : bs_J l K R Φ tgt lo st h) : bs_J l K R Φ pc lo st h := bj_of (fun _ _ _ _ _ _ _ _ _ _ _ _ _ _ _ _ hx hb _ w => lv_goto hx hb d ht w) k
theorem bj_istore_n {q : Fin 4} {i : Nat} {x : Int32} {lo' : List (Nat × Value)} (d : decode K.2.1 pc = .ok (.istore_n q, 1)) (hi : (q : Nat) = i) (hn : i < K.2.2.1) (hlo : (i, Value.int x) :: lo.filter (fun q => !(q.1 == i) && !(q.1 + 1 == i && q.2.category == 2)) = lo') (k : bs_J l K R Φ (pc + 1) lo' st h) : bs_J l K R Φ pc lo (.int x :: st) h := by
  intro D p e s m args below meth c F H locs cells slots ls hX hG hc hs hl
  exact lv_istore_n hX.1 hX.2.1 d hi hl hn hlo fun ls' hl' => k D p e s m args below meth c F H locs cells slots ls' hX hG hc hs hl'
theorem bj_istore {i : Nat} {x : Int32} {lo' : List (Nat × Value)} (d : decode K.2.1 pc = .ok (.istore i, 2)) (hn : i < K.2.2.1) (hlo : (i, Value.int x) :: lo.filter (fun q => !(q.1 == i) && !(q.1 + 1 == i && q.2.category == 2)) = lo') (k : bs_J l K R Φ (pc + 2) lo' st h) : bs_J l K R Φ pc lo (.int x :: st) h := by
  intro D p e s m args below meth c F H locs cells slots ls hX hG hc hs hl
  exact lv_istore hX.1 hX.2.1 d hl hn hlo fun ls' hl' => k D p e s m args below meth c F H locs cells slots ls' hX hG hc hs hl'
theorem bj_lstore_n {q : Fin 4} {i : Nat} {x : Int64} {lo' : List (Nat × Value)} (d : decode K.2.1 pc = .ok (.lstore_n q, 1)) (hi : (q : Nat) = i) (hn : i + 1 < K.2.2.1) (hlo : (i, Value.long x) :: lo.filter (fun q => !(q.1 == i) && (!(q.1 == i + 1) && !(q.1 + 1 == i && q.2.category == 2))) = lo') (k : bs_J l K R Φ (pc + 1) lo' st h) : bs_J l K R Φ pc lo (.long x :: st) h := by
  intro D p e s m args below meth c F H locs cells slots ls hX hG hc hs hl
  exact lv_lstore_n hX.1 hX.2.1 d hi hl hn hlo fun ls' hl' => k D p e s m args below meth c F H locs cells slots ls' hX hG hc hs hl'
theorem bj_lstore {i : Nat} {x : Int64} {lo' : List (Nat × Value)} (d : decode K.2.1 pc = .ok (.lstore i, 2)) (hn : i + 1 < K.2.2.1) (hlo : (i, Value.long x) :: lo.filter (fun q => !(q.1 == i) && (!(q.1 == i + 1) && !(q.1 + 1 == i && q.2.category == 2))) = lo') (k : bs_J l K R Φ (pc + 2) lo' st h) : bs_J l K R Φ pc lo (.long x :: st) h := by
  intro D p e s m args below meth c F H locs cells slots ls hX hG hc hs hl
  exact lv_lstore hX.1 hX.2.1 d hl hn hlo fun ls' hl' => k D p e s m args below meth c F H locs cells slots ls' hX hG hc hs hl'
theorem bj_astore_n {q : Fin 4} {i : Nat} {x : Nat} {lo' : List (Nat × Value)} (d : decode K.2.1 pc = .ok (.astore_n q, 1)) (hi : (q : Nat) = i) (hn : i < K.2.2.1) (hlo : (i, Value.ref x) :: lo.filter (fun q => !(q.1 == i) && !(q.1 + 1 == i && q.2.category == 2)) = lo') (k : bs_J l K R Φ (pc + 1) lo' st h) : bs_J l K R Φ pc lo (.ref x :: st) h := by
  intro D p e s m args below meth c F H locs cells slots ls hX hG hc hs hl
  exact lv_astore_n hX.1 hX.2.1 d hi hl hn hlo fun ls' hl' => k D p e s m args below meth c F H locs cells slots ls' hX hG hc hs hl'
theorem bj_astore {i : Nat} {x : Nat} {lo' : List (Nat × Value)} (d : decode K.2.1 pc = .ok (.astore i, 2)) (hn : i < K.2.2.1) (hlo : (i, Value.ref x) :: lo.filter (fun q => !(q.1 == i) && !(q.1 + 1 == i && q.2.category == 2)) = lo') (k : bs_J l K R Φ (pc + 2) lo' st h) : bs_J l K R Φ pc lo (.ref x :: st) h := by
  intro D p e s m args below meth c F H locs cells slots ls hX hG hc hs hl
  exact lv_astore hX.1 hX.2.1 d hl hn hlo fun ls' hl' => k D p e s m args below meth c F H locs cells slots ls' hX hG hc hs hl'
theorem bj_iinc {i : Nat} {n : Int} {x v : Int32} {lo' : List (Nat × Value)} (kk : Nat) (d : decode K.2.1 pc = .ok (.iinc i n, 3)) (hk : lo[kk]? = some (i, .int x)) (hv : x + Int32.ofInt n = v) (hn : i < K.2.2.1) (hlo : (i, Value.int v) :: lo.filter (fun q => !(q.1 == i) && !(q.1 + 1 == i && q.2.category == 2)) = lo') (k : bs_J l K R Φ (pc + 3) lo' st h) : bs_J l K R Φ pc lo st h := by
  intro D p e s m args below meth c F H locs cells slots ls hX hG hc hs hl
  exact lv_iinc hX.1 hX.2.1 d hl hk hv hn hlo fun ls' hl' => k D p e s m args below meth c F H locs cells slots ls' hX hG hc hs hl'
theorem bj_if_eq {x : Int32} {off : Int} {tgt : Nat} (d : decode K.2.1 pc = .ok (.ifCond .eq off, 3)) (ht : (pc : Int) + off = (tgt : Int)) (kt : x = 0 → bs_J l K R Φ tgt lo st h) (kf : ¬ x = 0 → bs_J l K R Φ (pc + 3) lo st h) : bs_J l K R Φ pc lo (.int x :: st) h := by
  intro D p e s m args below meth c F H locs cells slots ls hX hG hc hs hl
  exact lv_if_eq hX.1 hX.2.1 d ht (fun z => kt z D p e s m args below meth c F H locs cells slots ls hX hG hc hs hl) (fun z => kf z D p e s m args below meth c F H locs cells slots ls hX hG hc hs hl)
theorem bj_icmp_eq {x y : Int32} {off : Int} {tgt : Nat} (d : decode K.2.1 pc = .ok (.if_icmp .eq off, 3)) (ht : (pc : Int) + off = (tgt : Int)) (kt : x = y → bs_J l K R Φ tgt lo st h) (kf : ¬ x = y → bs_J l K R Φ (pc + 3) lo st h) : bs_J l K R Φ pc lo (.int y :: .int x :: st) h := by
  intro D p e s m args below meth c F H locs cells slots ls hX hG hc hs hl
  exact lv_icmp_eq hX.1 hX.2.1 d ht (fun z => kt z D p e s m args below meth c F H locs cells slots ls hX hG hc hs hl) (fun z => kf z D p e s m args below meth c F H locs cells slots ls hX hG hc hs hl)
theorem bj_if_ne {x : Int32} {off : Int} {tgt : Nat} (d : decode K.2.1 pc = .ok (.ifCond .ne off, 3)) (ht : (pc : Int) + off = (tgt : Int)) (kt : ¬ x = 0 → bs_J l K R Φ tgt lo st h) (kf : x = 0 → bs_J l K R Φ (pc + 3) lo st h) : bs_J l K R Φ pc lo (.int x :: st) h := by
  intro D p e s m args below meth c F H locs cells slots ls hX hG hc hs hl
  exact lv_if_ne hX.1 hX.2.1 d ht (fun z => kt z D p e s m args below meth c F H locs cells slots ls hX hG hc hs hl) (fun z => kf z D p e s m args below meth c F H locs cells slots ls hX hG hc hs hl)
theorem bj_icmp_ne {x y : Int32} {off : Int} {tgt : Nat} (d : decode K.2.1 pc = .ok (.if_icmp .ne off, 3)) (ht : (pc : Int) + off = (tgt : Int)) (kt : ¬ x = y → bs_J l K R Φ tgt lo st h) (kf : x = y → bs_J l K R Φ (pc + 3) lo st h) : bs_J l K R Φ pc lo (.int y :: .int x :: st) h := by
  intro D p e s m args below meth c F H locs cells slots ls hX hG hc hs hl
  exact lv_icmp_ne hX.1 hX.2.1 d ht (fun z => kt z D p e s m args below meth c F H locs cells slots ls hX hG hc hs hl) (fun z => kf z D p e s m args below meth c F H locs cells slots ls hX hG hc hs hl)
theorem bj_if_lt {x : Int32} {off : Int} {tgt : Nat} (d : decode K.2.1 pc = .ok (.ifCond .lt off, 3)) (ht : (pc : Int) + off = (tgt : Int)) (kt : x < 0 → bs_J l K R Φ tgt lo st h) (kf : ¬ x < 0 → bs_J l K R Φ (pc + 3) lo st h) : bs_J l K R Φ pc lo (.int x :: st) h := by
  intro D p e s m args below meth c F H locs cells slots ls hX hG hc hs hl
  exact lv_if_lt hX.1 hX.2.1 d ht (fun z => kt z D p e s m args below meth c F H locs cells slots ls hX hG hc hs hl) (fun z => kf z D p e s m args below meth c F H locs cells slots ls hX hG hc hs hl)
theorem bj_icmp_lt {x y : Int32} {off : Int} {tgt : Nat} (d : decode K.2.1 pc = .ok (.if_icmp .lt off, 3)) (ht : (pc : Int) + off = (tgt : Int)) (kt : x < y → bs_J l K R Φ tgt lo st h) (kf : ¬ x < y → bs_J l K R Φ (pc + 3) lo st h) : bs_J l K R Φ pc lo (.int y :: .int x :: st) h := by
  intro D p e s m args below meth c F H locs cells slots ls hX hG hc hs hl
  exact lv_icmp_lt hX.1 hX.2.1 d ht (fun z => kt z D p e s m args below meth c F H locs cells slots ls hX hG hc hs hl) (fun z => kf z D p e s m args below meth c F H locs cells slots ls hX hG hc hs hl)
theorem bj_if_ge {x : Int32} {off : Int} {tgt : Nat} (d : decode K.2.1 pc = .ok (.ifCond .ge off, 3)) (ht : (pc : Int) + off = (tgt : Int)) (kt : 0 ≤ x → bs_J l K R Φ tgt lo st h) (kf : ¬ 0 ≤ x → bs_J l K R Φ (pc + 3) lo st h) : bs_J l K R Φ pc lo (.int x :: st) h := by
  intro D p e s m args below meth c F H locs cells slots ls hX hG hc hs hl
  exact lv_if_ge hX.1 hX.2.1 d ht (fun z => kt z D p e s m args below meth c F H locs cells slots ls hX hG hc hs hl) (fun z => kf z D p e s m args below meth c F H locs cells slots ls hX hG hc hs hl)
theorem bj_icmp_ge {x y : Int32} {off : Int} {tgt : Nat} (d : decode K.2.1 pc = .ok (.if_icmp .ge off, 3)) (ht : (pc : Int) + off = (tgt : Int)) (kt : y ≤ x → bs_J l K R Φ tgt lo st h) (kf : ¬ y ≤ x → bs_J l K R Φ (pc + 3) lo st h) : bs_J l K R Φ pc lo (.int y :: .int x :: st) h := by
  intro D p e s m args below meth c F H locs cells slots ls hX hG hc hs hl
  exact lv_icmp_ge hX.1 hX.2.1 d ht (fun z => kt z D p e s m args below meth c F H locs cells slots ls hX hG hc hs hl) (fun z => kf z D p e s m args below meth c F H locs cells slots ls hX hG hc hs hl)
theorem bj_if_gt {x : Int32} {off : Int} {tgt : Nat} (d : decode K.2.1 pc = .ok (.ifCond .gt off, 3)) (ht : (pc : Int) + off = (tgt : Int)) (kt : 0 < x → bs_J l K R Φ tgt lo st h) (kf : ¬ 0 < x → bs_J l K R Φ (pc + 3) lo st h) : bs_J l K R Φ pc lo (.int x :: st) h := by
  intro D p e s m args below meth c F H locs cells slots ls hX hG hc hs hl
  exact lv_if_gt hX.1 hX.2.1 d ht (fun z => kt z D p e s m args below meth c F H locs cells slots ls hX hG hc hs hl) (fun z => kf z D p e s m args below meth c F H locs cells slots ls hX hG hc hs hl)
theorem bj_icmp_gt {x y : Int32} {off : Int} {tgt : Nat} (d : decode K.2.1 pc = .ok (.if_icmp .gt off, 3)) (ht : (pc : Int) + off = (tgt : Int)) (kt : y < x → bs_J l K R Φ tgt lo st h) (kf : ¬ y < x → bs_J l K R Φ (pc + 3) lo st h) : bs_J l K R Φ pc lo (.int y :: .int x :: st) h := by
  intro D p e s m args below meth c F H locs cells slots ls hX hG hc hs hl
  exact lv_icmp_gt hX.1 hX.2.1 d ht (fun z => kt z D p e s m args below meth c F H locs cells slots ls hX hG hc hs hl) (fun z => kf z D p e s m args below meth c F H locs cells slots ls hX hG hc hs hl)
theorem bj_if_le {x : Int32} {off : Int} {tgt : Nat} (d : decode K.2.1 pc = .ok (.ifCond .le off, 3)) (ht : (pc : Int) + off = (tgt : Int)) (kt : x ≤ 0 → bs_J l K R Φ tgt lo st h) (kf : ¬ x ≤ 0 → bs_J l K R Φ (pc + 3) lo st h) : bs_J l K R Φ pc lo (.int x :: st) h := by
  intro D p e s m args below meth c F H locs cells slots ls hX hG hc hs hl
  exact lv_if_le hX.1 hX.2.1 d ht (fun z => kt z D p e s m args below meth c F H locs cells slots ls hX hG hc hs hl) (fun z => kf z D p e s m args below meth c F H locs cells slots ls hX hG hc hs hl)
theorem bj_icmp_le {x y : Int32} {off : Int} {tgt : Nat} (d : decode K.2.1 pc = .ok (.if_icmp .le off, 3)) (ht : (pc : Int) + off = (tgt : Int)) (kt : x ≤ y → bs_J l K R Φ tgt lo st h) (kf : ¬ x ≤ y → bs_J l K R Φ (pc + 3) lo st h) : bs_J l K R Φ pc lo (.int y :: .int x :: st) h := by
  intro D p e s m args below meth c F H locs cells slots ls hX hG hc hs hl
  exact lv_icmp_le hX.1 hX.2.1 d ht (fun z => kt z D p e s m args below meth c F H locs cells slots ls hX hG hc hs hl) (fun z => kf z D p e s m args below meth c F H locs cells slots ls hX hG hc hs hl)
theorem bj_lc_eq {x y : Int64} {off : Int} {tgt : Nat} (d : decode K.2.1 pc = .ok (.lcmp, 1)) (d2 : decode K.2.1 (pc + 1) = .ok (.ifCond .eq off, 3)) (ht : ((pc + 1 : Nat) : Int) + off = (tgt : Int)) (kt : x = y → bs_J l K R Φ tgt lo st h) (kf : ¬ x = y → bs_J l K R Φ (pc + 4) lo st h) : bs_J l K R Φ pc lo (.long y :: .long x :: st) h := by
  intro D p e s m args below meth c F H locs cells slots ls hX hG hc hs hl
  refine W.lcmp hX.1 hX.2.1 d ?_
  exact lv_if_eq hX.1 hX.2.1 d2 ht (fun z => kt ((bs_lceq x y).mp z) D p e s m args below meth c F H locs cells slots ls hX hG hc hs hl) (fun z => kf (fun q => z ((bs_lceq x y).mpr q)) D p e s m args below meth c F H locs cells slots ls hX hG hc hs hl)
theorem bj_lc_ne {x y : Int64} {off : Int} {tgt : Nat} (d : decode K.2.1 pc = .ok (.lcmp, 1)) (d2 : decode K.2.1 (pc + 1) = .ok (.ifCond .ne off, 3)) (ht : ((pc + 1 : Nat) : Int) + off = (tgt : Int)) (kt : ¬ x = y → bs_J l K R Φ tgt lo st h) (kf : x = y → bs_J l K R Φ (pc + 4) lo st h) : bs_J l K R Φ pc lo (.long y :: .long x :: st) h := by
  intro D p e s m args below meth c F H locs cells slots ls hX hG hc hs hl
  refine W.lcmp hX.1 hX.2.1 d ?_
  exact lv_if_ne hX.1 hX.2.1 d2 ht (fun z => kt (fun q => z ((bs_lceq x y).mpr q)) D p e s m args below meth c F H locs cells slots ls hX hG hc hs hl) (fun z => kf ((bs_lceq x y).mp z) D p e s m args below meth c F H locs cells slots ls hX hG hc hs hl)
theorem bj_ldc2 {index : Nat} {v : Int64} (d : decode K.2.1 pc = .ok (.ldc2_w index, 3)) (hw : Cond.constantLong K.1 index v ∈ bs_WS) (k : bs_J l K R Φ (pc + 3) lo (.long v :: st) h) : bs_J l K R Φ pc lo st h := by
  intro D p e s m args below meth c F H locs cells slots ls hX hG hc hs hl
  exact lv_ldc2 hX.1 hX.2.1 hX.2.2.2.1 (hX.2.2.2.2.1 _ hw) d (k D p e s m args below meth c F H locs cells slots ls hX hG hc hs hl)
theorem bj_tableOut {dflt lw hi : Int} {offs : Array Int} {len : Nat} {x : Int32} {tgt : Nat} (d : decode K.2.1 pc = .ok (.tableswitch dflt lw hi offs, len)) (hz : x.toInt < lw ∨ hi < x.toInt) (ht : (pc : Int) + dflt = (tgt : Int)) (k : bs_J l K R Φ tgt lo st h) : bs_J l K R Φ pc lo (.int x :: st) h := bj_of (fun _ _ _ _ _ _ _ _ _ _ _ _ _ _ _ _ hx hb _ w => lv_tableOut hx hb d hz ht w) k
theorem bj_tableIn {dflt lw hi : Int} {offs : Array Int} {len : Nat} {x : Int32} {off : Int} {tgt : Nat} (d : decode K.2.1 pc = .ok (.tableswitch dflt lw hi offs, len)) (h1 : ¬ x.toInt < lw) (h2 : ¬ hi < x.toInt) (ho : offs[(x.toInt - lw).toNat]? = some off) (ht : (pc : Int) + off = (tgt : Int)) (k : bs_J l K R Φ tgt lo st h) : bs_J l K R Φ pc lo (.int x :: st) h := bj_of (fun _ _ _ _ _ _ _ _ _ _ _ _ _ _ _ _ hx hb _ w => lv_tableIn hx hb d h1 h2 ho ht w) k
variable {x : Int32} {y : Int64}
theorem bj_iret (d : decode K.2.1 pc = .ok (.ireturn, 1)) (hr : K.2.2.2.1 = some .int) (k : Φ (.ok (some (.int x))) h) : bs_J l K R Φ pc lo [.int x] h := by
  intro D p e s m args below meth c F H locs cells slots ls hX hG hc hs hl
  intro T hT X
  obtain ⟨t, h1, o, h2, h3, h4, L, ⟨-, h5, h6⟩, h7⟩ := W.iret (Qc := fun _ _ o t => o = .returned (some (.int x)) ∧ t.heap = H) (free := F) hX.1 hX.2.1 (hX.2.2.2.2.2.2.2.1.trans hr) (fun t ht _ => ⟨rfl, ht⟩) hG.2.2.2.2.2.1 d hX.2.2.2.2.2.2.1 T hT X
  refine ⟨t, h1, o, .ok (some (.int x)), h, L, cells, slots, h2, h3, h4.1, k, ?_, h5, h6, hc, hs⟩
  rw [h4.2]
  exact ⟨hG.1, hG.2.1, hG.2.2.1, hG.2.2.2.1, hG.2.2.2.2.1, h7, hG.2.2.2.2.2.2⟩
theorem bj_zret (d : decode K.2.1 pc = .ok (.ireturn, 1)) (hr : K.2.2.2.1 = some .boolean) (hn : narrow .boolean (.int x) = .int x) (k : Φ (.ok (some (.int x))) h) : bs_J l K R Φ pc lo [.int x] h := by
  intro D p e s m args below meth c F H locs cells slots ls hX hG hc hs hl
  intro T hT X
  obtain ⟨t, h1, o, h2, h3, h4, L, ⟨-, h5, h6⟩, h7⟩ := W.zret (Qc := fun _ _ o t => o = .returned (some (.int x)) ∧ t.heap = H) (free := F) hX.1 hX.2.1 (hX.2.2.2.2.2.2.2.1.trans hr) hn (fun t ht _ => ⟨rfl, ht⟩) hG.2.2.2.2.2.1 d hX.2.2.2.2.2.2.1 T hT X
  refine ⟨t, h1, o, .ok (some (.int x)), h, L, cells, slots, h2, h3, h4.1, k, ?_, h5, h6, hc, hs⟩
  rw [h4.2]
  exact ⟨hG.1, hG.2.1, hG.2.2.1, hG.2.2.2.1, hG.2.2.2.2.1, h7, hG.2.2.2.2.2.2⟩
theorem bj_lret (d : decode K.2.1 pc = .ok (.lreturn, 1)) (hr : K.2.2.2.1 = some .long) (k : Φ (.ok (some (.long y))) h) : bs_J l K R Φ pc lo [.long y] h := by
  intro D p e s m args below meth c F H locs cells slots ls hX hG hc hs hl
  intro T hT X
  obtain ⟨t, h1, o, h2, h3, h4, L, ⟨-, h5, h6⟩, h7⟩ := W.lret (Qc := fun _ _ o t => o = .returned (some (.long y)) ∧ t.heap = H) (free := F) hX.1 hX.2.1 (hX.2.2.2.2.2.2.2.1.trans hr) (fun t ht _ => ⟨rfl, ht⟩) hG.2.2.2.2.2.1 d hX.2.2.2.2.2.2.1 T hT X
  refine ⟨t, h1, o, .ok (some (.long y)), h, L, cells, slots, h2, h3, h4.1, k, ?_, h5, h6, hc, hs⟩
  rw [h4.2]
  exact ⟨hG.1, hG.2.1, hG.2.2.1, hG.2.2.2.1, hG.2.2.2.2.1, h7, hG.2.2.2.2.2.2⟩
theorem bj_vret (d : decode K.2.1 pc = .ok (.return_, 1)) (hr : K.2.2.2.1 = none) (k : Φ (.ok none) h) : bs_J l K R Φ pc lo [] h := by
  intro D p e s m args below meth c F H locs cells slots ls hX hG hc hs hl
  intro T hT X
  obtain ⟨t, h1, o, h2, h3, h4, L, ⟨-, h5, h6⟩, h7⟩ := W.vret (Qc := fun _ _ o t => o = .returned none ∧ t.heap = H) (free := F) hX.1 hX.2.1 (hX.2.2.2.2.2.2.2.1.trans hr) (fun t ht _ => ⟨rfl, ht⟩) hG.2.2.2.2.2.1 d hX.2.2.2.2.2.2.1 T hT X
  refine ⟨t, h1, o, .ok none, h, L, cells, slots, h2, h3, h4.1, k, ?_, h5, h6, hc, hs⟩
  rw [h4.2]
  exact ⟨hG.1, hG.2.1, hG.2.2.1, hG.2.2.2.1, hG.2.2.2.2.1, h7, hG.2.2.2.2.2.2⟩
end BJ

/-! ONE JUDGEMENT for all walks: X is what stays fixed within a method's body. -/
abbrev CX : Type := Program × Launch × Env × Room × State × MethodId × Array Value × List Frame × Method × Code × va_G × (Nat → ClassId) × Nat × (Nat → Nat) × (Nat → Nat) × (State → Prop)
abbrev xp (X : CX) : Program := X.1
abbrev xl (X : CX) : Launch := X.2.1
abbrev xe (X : CX) : Env := X.2.2.1
abbrev xR (X : CX) : Room := X.2.2.2.1
abbrev xs (X : CX) : State := X.2.2.2.2.1
abbrev xm (X : CX) : MethodId := X.2.2.2.2.2.1
abbrev xa (X : CX) : Array Value := X.2.2.2.2.2.2.1
abbrev xw (X : CX) : List Frame := X.2.2.2.2.2.2.2.1
abbrev xh (X : CX) : Method := X.2.2.2.2.2.2.2.2.1
abbrev xc (X : CX) : Code := X.2.2.2.2.2.2.2.2.2.1
abbrev xD (X : CX) : va_G := X.2.2.2.2.2.2.2.2.2.2.1
abbrev xA (X : CX) : Nat → ClassId := X.2.2.2.2.2.2.2.2.2.2.2.1
abbrev xb (X : CX) : Nat := X.2.2.2.2.2.2.2.2.2.2.2.2.1
abbrev xK (X : CX) : Nat → Nat := X.2.2.2.2.2.2.2.2.2.2.2.2.2.1
abbrev xV (X : CX) : Nat → Nat := X.2.2.2.2.2.2.2.2.2.2.2.2.2.2.1
abbrev xQ (X : CX) : State → Prop := X.2.2.2.2.2.2.2.2.2.2.2.2.2.2.2
/-- a cell's address as a value -/
abbrev vr (X : CX) (k : Nat) : Value := .ref (xb X + k)
abbrev AA (b : Nat) : Nat → Prop := fun q => b ≤ q
def Cx (X : CX) (cc : ByteArray) (own : String) (L : Nat) : Prop :=
  (xp X).tables.exec = Jvm.exec ∧ (xc X).code = cc ∧ (xs X).vm.findClass own = some (xm X).cls ∧ (∀ w ∈ lw_g, w.before (xa X) (xs X) = true) ∧ (xh X).locks = false ∧ va_K (xD X) vwCl (tyL (xA X)) (xs X) ∧ Gl (xb X) (xK X) (xV X) (xs X) (xs X).heap ∧ (L ≤ (xR X).frames ∧ 36 * L ≤ (xR X).locals) ∧ xb X ≤ (xs X).heap.size
def G (X : CX) (cs ss n : Nat) (σ : Sto) (ρ : Rho) (pc : Nat) (lv : List (Nat × Value)) (st : List Value) : Prop :=
  (xs X).heap.size + cs = xb X + n → ∀ (H : Heap) (locs : List Loc) (ls : Array Slot), Wd (xD X) (xA X) (xb X) n σ ρ H → va_S (AA (xb X)) (xs X).heap H locs → lv_has ls (xc X).maxLocals lv → W (xp X) (xl X) (xe X) (xR X) (xs X) (xm X) (xa X) (xw X) (xh X) (xc X) H locs cs ss (xQ X) (F0 (xm X) pc ls st)
section ROWS
variable {X : CX} {cc : ByteArray} {own : String} {L cs ss n pc q : Nat} {σ : Sto} {ρ : Rho} {lv lv' : List (Nat × Value)} {st : List Value} {α β γ : Type} {res : β}
theorem g_sub (ks : List Nat) (k : G X cs ss n σ ρ pc lv' st) (hl : lv_pick lv ks = lv') : G X cs ss n σ ρ pc lv st := fun hz H locs ls hW hS h => k hz H locs ls hW hS (lv_sub h ks hl)
theorem g_pc {pc' : Nat} (h : pc = pc') (k : G X cs ss n σ ρ pc' lv st) : G X cs ss n σ ρ pc lv st := by subst h; exact k
theorem g_iconst (hC : Cx X cc own L) {i : Int} {v : Int32} (d : decode cc pc = .ok (.iconst i, 1)) (e : q = pc) (hv : Int32.ofInt i = v) (k : G X cs ss n σ ρ (pc + 1) lv (.int v :: st)) : G X cs ss n σ ρ q lv st := by
  subst e; exact fun hz H locs ls hW hS h => lv_iconst hC.1 hC.2.1 d hv (k hz H locs ls hW hS h)
theorem g_bipush (hC : Cx X cc own L) {i : Int} {v : Int32} (d : decode cc pc = .ok (.bipush i, 2)) (e : q = pc) (hv : (Int8.ofInt i).toInt32 = v) (k : G X cs ss n σ ρ (pc + 2) lv (.int v :: st)) : G X cs ss n σ ρ q lv st := by
  subst e; exact fun hz H locs ls hW hS h => lv_bipush hC.1 hC.2.1 d hv (k hz H locs ls hW hS h)
theorem g_sipush (hC : Cx X cc own L) {i : Int} {v : Int32} (d : decode cc pc = .ok (.sipush i, 3)) (e : q = pc) (hv : (Int16.ofInt i).toInt32 = v) (k : G X cs ss n σ ρ (pc + 3) lv (.int v :: st)) : G X cs ss n σ ρ q lv st := by
  subst e; exact fun hz H locs ls hW hS h => lv_sipush hC.1 hC.2.1 d hv (k hz H locs ls hW hS h)
theorem g_lconst (hC : Cx X cc own L) {i : Fin 2} {v : Int64} (d : decode cc pc = .ok (.lconst i, 1)) (e : q = pc) (hv : Int64.ofNat (i : Nat) = v) (k : G X cs ss n σ ρ (pc + 1) lv (.long v :: st)) : G X cs ss n σ ρ q lv st := by
  subst e; exact fun hz H locs ls hW hS h => lv_lconst hC.1 hC.2.1 d hv (k hz H locs ls hW hS h)
theorem g_ldc (hC : Cx X cc own L) {i : Nat} {v : Int32} (hw : Cond.constant own i v ∈ lw_g) (d : decode cc pc = .ok (.ldc i, 2)) (e : q = pc) (k : G X cs ss n σ ρ (pc + 2) lv (.int v :: st)) : G X cs ss n σ ρ q lv st := by
  subst e; exact fun hz H locs ls hW hS h => lv_ldc hC.1 hC.2.1 hC.2.2.1 (hC.2.2.2.1 _ hw) d (k hz H locs ls hW hS h)
theorem g_ldc2 (hC : Cx X cc own L) {i : Nat} {v : Int64} (hw : Cond.constantLong own i v ∈ lw_g) (d : decode cc pc = .ok (.ldc2_w i, 3)) (e : q = pc) (k : G X cs ss n σ ρ (pc + 3) lv (.long v :: st)) : G X cs ss n σ ρ q lv st := by
  subst e; exact fun hz H locs ls hW hS h => lv_ldc2 hC.1 hC.2.1 hC.2.2.1 (hC.2.2.2.1 _ hw) d (k hz H locs ls hW hS h)
-- locals
theorem g_iload_n (hC : Cx X cc own L) {i : Fin 4} {x : Int32} (d : decode cc pc = .ok (.iload_n i, 1)) (e : q = pc) (j : Nat) (hl : lv[j]? = some ((i : Nat), .int x)) (k : G X cs ss n σ ρ (pc + 1) lv (.int x :: st)) : G X cs ss n σ ρ q lv st := by
  subst e; exact fun hz H locs ls hW hS h => lv_iload_n hC.1 hC.2.1 d rfl (lv_at h j hl) (k hz H locs ls hW hS h)
theorem g_iload (hC : Cx X cc own L) {i : Nat} {x : Int32} (d : decode cc pc = .ok (.iload i, 2)) (e : q = pc) (j : Nat) (hl : lv[j]? = some (i, .int x)) (k : G X cs ss n σ ρ (pc + 2) lv (.int x :: st)) : G X cs ss n σ ρ q lv st := by
  subst e; exact fun hz H locs ls hW hS h => lv_iload hC.1 hC.2.1 d (lv_at h j hl) (k hz H locs ls hW hS h)
theorem g_aload_n (hC : Cx X cc own L) {i : Fin 4} {x : Nat} (d : decode cc pc = .ok (.aload_n i, 1)) (e : q = pc) (j : Nat) (hl : lv[j]? = some ((i : Nat), .ref x)) (k : G X cs ss n σ ρ (pc + 1) lv (.ref x :: st)) : G X cs ss n σ ρ q lv st := by
  subst e; exact fun hz H locs ls hW hS h => lv_aload_n hC.1 hC.2.1 d rfl (lv_at h j hl) (k hz H locs ls hW hS h)
theorem g_aload (hC : Cx X cc own L) {i : Nat} {x : Nat} (d : decode cc pc = .ok (.aload i, 2)) (e : q = pc) (j : Nat) (hl : lv[j]? = some (i, .ref x)) (k : G X cs ss n σ ρ (pc + 2) lv (.ref x :: st)) : G X cs ss n σ ρ q lv st := by
  subst e; exact fun hz H locs ls hW hS h => lv_aload hC.1 hC.2.1 d (lv_at h j hl) (k hz H locs ls hW hS h)
theorem g_lload_n (hC : Cx X cc own L) {i : Fin 4} {x : Int64} (d : decode cc pc = .ok (.lload_n i, 1)) (e : q = pc) (j : Nat) (hl : lv[j]? = some ((i : Nat), .long x)) (k : G X cs ss n σ ρ (pc + 1) lv (.long x :: st)) : G X cs ss n σ ρ q lv st := by
  subst e; exact fun hz H locs ls hW hS h => lv_lload_n hC.1 hC.2.1 d rfl (lv_at h j hl) (k hz H locs ls hW hS h)
abbrev lset (lv : List (Nat × Value)) (i : Nat) (v : Value) : List (Nat × Value) := (i, v) :: lv.filter (fun q => !(q.1 == i) && !(q.1 + 1 == i && q.2.category == 2))
/-- naming -/
def bn (a : α) (f : α → Option β) : Option β := f a
theorem g_istore_n (hC : Cx X cc own L) {i : Fin 4} {nL : Nat} {x : Int32} {f : Int32 → Option β} (ly : Int32 → List (Nat × Value)) (d : decode cc pc = .ok (.istore_n i, 1)) (e : q = pc) (hM : bn x f = some res) (hml : (xc X).maxLocals = nL) (hn : (i : Nat) < nL) (hl : ∀ y, lset lv i (.int y) = ly y) (k : ∀ y : Int32, f y = some res → G X cs ss n σ ρ (pc + 1) (ly y) st) : G X cs ss n σ ρ q lv (.int x :: st) := by
  subst e; exact fun hz H locs ls hW hS h => lv_istore_n hC.1 hC.2.1 d rfl h (by rw [hml]; exact hn) (hl x) (fun ls' h' => k x hM hz H locs ls' hW hS h')
theorem g_istore (hC : Cx X cc own L) {i nL : Nat} {x : Int32} {f : Int32 → Option β} (ly : Int32 → List (Nat × Value)) (d : decode cc pc = .ok (.istore i, 2)) (e : q = pc) (hM : bn x f = some res) (hml : (xc X).maxLocals = nL) (hn : i < nL) (hl : ∀ y, lset lv i (.int y) = ly y) (k : ∀ y : Int32, f y = some res → G X cs ss n σ ρ (pc + 2) (ly y) st) : G X cs ss n σ ρ q lv (.int x :: st) := by
  subst e; exact fun hz H locs ls hW hS h => lv_istore hC.1 hC.2.1 d h (by rw [hml]; exact hn) (hl x) (fun ls' h' => k x hM hz H locs ls' hW hS h')
theorem g_astore_n (hC : Cx X cc own L) {i : Fin 4} {nL : Nat} {x : Nat} (d : decode cc pc = .ok (.astore_n i, 1)) (e : q = pc) (hml : (xc X).maxLocals = nL) (hn : (i : Nat) < nL) (hl : lset lv i (.ref x) = lv') (k : G X cs ss n σ ρ (pc + 1) lv' st) : G X cs ss n σ ρ q lv (.ref x :: st) := by
  subst e; exact fun hz H locs ls hW hS h => lv_astore_n hC.1 hC.2.1 d rfl h (by rw [hml]; exact hn) hl (fun ls' h' => k hz H locs ls' hW hS h')
theorem g_iinc (hC : Cx X cc own L) {i nL j : Nat} {z : Int} {x v : Int32} {f : Int32 → Option β} (ly : Int32 → List (Nat × Value)) (d : decode cc pc = .ok (.iinc i z, 3)) (e : q = pc) (hM : bn (x + v) f = some res) (hj : lv[j]? = some (i, .int x)) (hv : Int32.ofInt z = v) (hml : (xc X).maxLocals = nL) (hn : i < nL) (hl : ∀ y, lset lv i (.int y) = ly y) (k : ∀ y : Int32, f y = some res → G X cs ss n σ ρ (pc + 3) (ly y) st) : G X cs ss n σ ρ q lv st := by
  subst e; subst hv; exact fun hz H locs ls hW hS h => lv_iinc hC.1 hC.2.1 d h hj rfl (by rw [hml]; exact hn) (hl _) (fun ls' h' => k _ hM hz H locs ls' hW hS h')
-- arithmetic
theorem g_iadd (hC : Cx X cc own L) {x y : Int32} (d : decode cc pc = .ok (.iadd, 1)) (e : q = pc) (k : G X cs ss n σ ρ (pc + 1) lv (.int (x + y) :: st)) : G X cs ss n σ ρ q lv (.int y :: .int x :: st) := by
  subst e; exact fun hz H locs ls hW hS h => lv_iadd hC.1 hC.2.1 d (k hz H locs ls hW hS h)
theorem g_isub (hC : Cx X cc own L) {x y : Int32} (d : decode cc pc = .ok (.isub, 1)) (e : q = pc) (k : G X cs ss n σ ρ (pc + 1) lv (.int (x - y) :: st)) : G X cs ss n σ ρ q lv (.int y :: .int x :: st) := by
  subst e; exact fun hz H locs ls hW hS h => lv_isub hC.1 hC.2.1 d (k hz H locs ls hW hS h)
theorem g_imul (hC : Cx X cc own L) {x y : Int32} (d : decode cc pc = .ok (.imul, 1)) (e : q = pc) (k : G X cs ss n σ ρ (pc + 1) lv (.int (x * y) :: st)) : G X cs ss n σ ρ q lv (.int y :: .int x :: st) := by
  subst e; exact fun hz H locs ls hW hS h => lv_imul hC.1 hC.2.1 d (k hz H locs ls hW hS h)
theorem g_iand (hC : Cx X cc own L) {x y : Int32} (d : decode cc pc = .ok (.iand, 1)) (e : q = pc) (k : G X cs ss n σ ρ (pc + 1) lv (.int (x &&& y) :: st)) : G X cs ss n σ ρ q lv (.int y :: .int x :: st) := by
  subst e; exact fun hz H locs ls hW hS h => lv_iand hC.1 hC.2.1 d (k hz H locs ls hW hS h)
theorem g_ixor (hC : Cx X cc own L) {x y : Int32} (d : decode cc pc = .ok (.ixor, 1)) (e : q = pc) (k : G X cs ss n σ ρ (pc + 1) lv (.int (x ^^^ y) :: st)) : G X cs ss n σ ρ q lv (.int y :: .int x :: st) := by
  subst e; exact fun hz H locs ls hW hS h => lv_ixor hC.1 hC.2.1 d (k hz H locs ls hW hS h)
theorem g_ishr (hC : Cx X cc own L) {x y : Int32} (d : decode cc pc = .ok (.ishr, 1)) (e : q = pc) (k : G X cs ss n σ ρ (pc + 1) lv (.int (x >>> (y &&& 31)) :: st)) : G X cs ss n σ ρ q lv (.int y :: .int x :: st) := by
  subst e; exact fun hz H locs ls hW hS h => lv_ishr hC.1 hC.2.1 d (k hz H locs ls hW hS h)
theorem g_iushr (hC : Cx X cc own L) {x y : Int32} (d : decode cc pc = .ok (.iushr, 1)) (e : q = pc) (k : G X cs ss n σ ρ (pc + 1) lv (.int ((x.toUInt32 >>> (y.toUInt32 &&& Int32.toUInt32 31)).toInt32) :: st)) : G X cs ss n σ ρ q lv (.int y :: .int x :: st) := by
  subst e; exact fun hz H locs ls hW hS h => lv_iushr hC.1 hC.2.1 d rfl (k hz H locs ls hW hS h)
theorem g_ineg (hC : Cx X cc own L) {x : Int32} (d : decode cc pc = .ok (.ineg, 1)) (e : q = pc) (k : G X cs ss n σ ρ (pc + 1) lv (.int (-x) :: st)) : G X cs ss n σ ρ q lv (.int x :: st) := by
  subst e; exact fun hz H locs ls hW hS h => lv_ineg hC.1 hC.2.1 d (k hz H locs ls hW hS h)
theorem g_i2b (hC : Cx X cc own L) {x : Int32} (d : decode cc pc = .ok (.i2b, 1)) (e : q = pc) (k : G X cs ss n σ ρ (pc + 1) lv (.int x.toInt8.toInt32 :: st)) : G X cs ss n σ ρ q lv (.int x :: st) := by
  subst e; exact fun hz H locs ls hW hS h => lv_i2b hC.1 hC.2.1 d rfl (k hz H locs ls hW hS h)
theorem g_i2c (hC : Cx X cc own L) {x v : Int32} (d : decode cc pc = .ok (.i2c, 1)) (e : q = pc) (hv : (x.toUInt32 % 65536).toInt32 = v) (k : G X cs ss n σ ρ (pc + 1) lv (.int v :: st)) : G X cs ss n σ ρ q lv (.int x :: st) := by
  subst e; exact fun hz H locs ls hW hS h => lv_i2c hC.1 hC.2.1 d hv (k hz H locs ls hW hS h)
theorem g_i2l (hC : Cx X cc own L) {x : Int32} (d : decode cc pc = .ok (.i2l, 1)) (e : q = pc) (k : G X cs ss n σ ρ (pc + 1) lv (.long x.toInt64 :: st)) : G X cs ss n σ ρ q lv (.int x :: st) := by
  subst e; exact fun hz H locs ls hW hS h => lv_i2l hC.1 hC.2.1 d rfl (k hz H locs ls hW hS h)
theorem g_l2i (hC : Cx X cc own L) {x : Int64} (d : decode cc pc = .ok (.l2i, 1)) (e : q = pc) (k : G X cs ss n σ ρ (pc + 1) lv (.int x.toInt32 :: st)) : G X cs ss n σ ρ q lv (.long x :: st) := by
  subst e; exact fun hz H locs ls hW hS h => lv_l2i hC.1 hC.2.1 d rfl (k hz H locs ls hW hS h)
theorem g_ladd (hC : Cx X cc own L) {x y : Int64} (d : decode cc pc = .ok (.ladd, 1)) (e : q = pc) (k : G X cs ss n σ ρ (pc + 1) lv (.long (x + y) :: st)) : G X cs ss n σ ρ q lv (.long y :: .long x :: st) := by
  subst e; exact fun hz H locs ls hW hS h => lv_ladd hC.1 hC.2.1 d (k hz H locs ls hW hS h)
theorem g_lsub (hC : Cx X cc own L) {x y : Int64} (d : decode cc pc = .ok (.lsub, 1)) (e : q = pc) (k : G X cs ss n σ ρ (pc + 1) lv (.long (x - y) :: st)) : G X cs ss n σ ρ q lv (.long y :: .long x :: st) := by
  subst e; exact fun hz H locs ls hW hS h => lv_lsub hC.1 hC.2.1 d (k hz H locs ls hW hS h)
theorem g_lmul (hC : Cx X cc own L) {x y : Int64} (d : decode cc pc = .ok (.lmul, 1)) (e : q = pc) (k : G X cs ss n σ ρ (pc + 1) lv (.long (x * y) :: st)) : G X cs ss n σ ρ q lv (.long y :: .long x :: st) := by
  subst e; exact fun hz H locs ls hW hS h => lv_lmul hC.1 hC.2.1 d (k hz H locs ls hW hS h)
/-- division: none where the divisor is 0 -/
def dvi (x y : Int32) : Option Int32 := if y = 0 then none else some (x / y)
def rmi (x y : Int32) : Option Int32 := if y = 0 then none else some (x - x / y * y)
theorem g_idiv (hC : Cx X cc own L) {x y : Int32} {f : Int32 → Option β} (d : decode cc pc = .ok (.idiv, 1)) (e : q = pc) (hM : Option.bind (dvi x y) f = some res) (k : ∀ z, f z = some res → G X cs ss n σ ρ (pc + 1) lv (.int z :: st)) : G X cs ss n σ ρ q lv (.int y :: .int x :: st) := by
  subst e
  unfold dvi at hM
  by_cases h0 : y = 0
  · rw [if_pos h0] at hM; cases hM
  · rw [if_neg h0] at hM
    exact fun hz H locs ls hW hS h => lv_idiv hC.1 hC.2.1 d h0 (k _ hM hz H locs ls hW hS h)
theorem g_irem (hC : Cx X cc own L) {x y : Int32} {f : Int32 → Option β} (d : decode cc pc = .ok (.irem, 1)) (e : q = pc) (hM : Option.bind (rmi x y) f = some res) (k : ∀ z, f z = some res → G X cs ss n σ ρ (pc + 1) lv (.int z :: st)) : G X cs ss n σ ρ q lv (.int y :: .int x :: st) := by
  subst e
  unfold rmi at hM
  by_cases h0 : y = 0
  · rw [if_pos h0] at hM; cases hM
  · rw [if_neg h0] at hM
    exact fun hz H locs ls hW hS h => lv_irem hC.1 hC.2.1 d h0 (k _ hM hz H locs ls hW hS h)
-- stack
theorem g_dup (hC : Cx X cc own L) {v : Value} (d : decode cc pc = .ok (.dup, 1)) (e : q = pc) (hv : v.category = 1) (k : G X cs ss n σ ρ (pc + 1) lv (v :: v :: st)) : G X cs ss n σ ρ q lv (v :: st) := by
  subst e; exact fun hz H locs ls hW hS h => lv_dup hC.1 hC.2.1 d hv (k hz H locs ls hW hS h)
theorem g_pop (hC : Cx X cc own L) {v : Value} (d : decode cc pc = .ok (.pop, 1)) (e : q = pc) (hv : v.category = 1) (k : G X cs ss n σ ρ (pc + 1) lv st) : G X cs ss n σ ρ q lv (v :: st) := by
  subst e; exact fun hz H locs ls hW hS h => lv_pop hC.1 hC.2.1 d hv (k hz H locs ls hW hS h)
theorem g_dup2 (hC : Cx X cc own L) {v w : Value} (d : decode cc pc = .ok (.dup2, 1)) (e : q = pc) (hv : v.category = 1) (hw : w.category = 1) (k : G X cs ss n σ ρ (pc + 1) lv (v :: w :: v :: w :: st)) : G X cs ss n σ ρ q lv (v :: w :: st) := by
  subst e; exact fun hz H locs ls hW hS h => lv_dup2_11 hC.1 hC.2.1 d hv hw (k hz H locs ls hW hS h)
-- branches
theorem g_goto (hC : Cx X cc own L) {off : Int} {tgt : Nat} (d : decode cc pc = .ok (.goto off, 3)) (e : q = pc) (ht : (pc : Int) + off = (tgt : Int)) (k : G X cs ss n σ ρ tgt lv st) : G X cs ss n σ ρ q lv st := by
  subst e; exact fun hz H locs ls hW hS h => lv_goto hC.1 hC.2.1 d ht (k hz H locs ls hW hS h)
theorem g_if_eq (hC : Cx X cc own L) {x : Int32} {off : Int} {tgt : Nat} {a b : Option β} (d : decode cc pc = .ok (.ifCond .eq off, 3)) (e : q = pc) (ht : (pc : Int) + off = (tgt : Int)) (hM : (if x = 0 then a else b) = some res) (kt : a = some res → G X cs ss n σ ρ tgt lv st) (kf : b = some res → G X cs ss n σ ρ (pc + 3) lv st) : G X cs ss n σ ρ q lv (.int x :: st) := by
  subst e
  exact fun hz H locs ls hW hS h => lv_if_eq hC.1 hC.2.1 d ht (fun c => kt (by rw [if_pos c] at hM; exact hM) hz H locs ls hW hS h) (fun c => kf (by rw [if_neg c] at hM; exact hM) hz H locs ls hW hS h)
theorem g_icmp_eq (hC : Cx X cc own L) {x y : Int32} {off : Int} {tgt : Nat} {a b : Option β} (d : decode cc pc = .ok (.if_icmp .eq off, 3)) (e : q = pc) (ht : (pc : Int) + off = (tgt : Int)) (hM : (if x = y then a else b) = some res) (kt : a = some res → G X cs ss n σ ρ tgt lv st) (kf : b = some res → G X cs ss n σ ρ (pc + 3) lv st) : G X cs ss n σ ρ q lv (.int y :: .int x :: st) := by
  subst e
  exact fun hz H locs ls hW hS h => lv_icmp_eq hC.1 hC.2.1 d ht (fun c => kt (by rw [if_pos c] at hM; exact hM) hz H locs ls hW hS h) (fun c => kf (by rw [if_neg c] at hM; exact hM) hz H locs ls hW hS h)
theorem g_if_ne (hC : Cx X cc own L) {x : Int32} {off : Int} {tgt : Nat} {a b : Option β} (d : decode cc pc = .ok (.ifCond .ne off, 3)) (e : q = pc) (ht : (pc : Int) + off = (tgt : Int)) (hM : (if x = 0 then b else a) = some res) (kt : a = some res → G X cs ss n σ ρ tgt lv st) (kf : b = some res → G X cs ss n σ ρ (pc + 3) lv st) : G X cs ss n σ ρ q lv (.int x :: st) := by
  subst e
  exact fun hz H locs ls hW hS h => lv_if_ne hC.1 hC.2.1 d ht (fun c => kt (by rw [if_neg c] at hM; exact hM) hz H locs ls hW hS h) (fun c => kf (by rw [if_pos c] at hM; exact hM) hz H locs ls hW hS h)
theorem g_icmp_ne (hC : Cx X cc own L) {x y : Int32} {off : Int} {tgt : Nat} {a b : Option β} (d : decode cc pc = .ok (.if_icmp .ne off, 3)) (e : q = pc) (ht : (pc : Int) + off = (tgt : Int)) (hM : (if x = y then b else a) = some res) (kt : a = some res → G X cs ss n σ ρ tgt lv st) (kf : b = some res → G X cs ss n σ ρ (pc + 3) lv st) : G X cs ss n σ ρ q lv (.int y :: .int x :: st) := by
  subst e
  exact fun hz H locs ls hW hS h => lv_icmp_ne hC.1 hC.2.1 d ht (fun c => kt (by rw [if_neg c] at hM; exact hM) hz H locs ls hW hS h) (fun c => kf (by rw [if_pos c] at hM; exact hM) hz H locs ls hW hS h)
theorem g_if_lt (hC : Cx X cc own L) {x : Int32} {off : Int} {tgt : Nat} {a b : Option β} (d : decode cc pc = .ok (.ifCond .lt off, 3)) (e : q = pc) (ht : (pc : Int) + off = (tgt : Int)) (hM : (if x < 0 then a else b) = some res) (kt : a = some res → G X cs ss n σ ρ tgt lv st) (kf : b = some res → G X cs ss n σ ρ (pc + 3) lv st) : G X cs ss n σ ρ q lv (.int x :: st) := by
  subst e
  exact fun hz H locs ls hW hS h => lv_if_lt hC.1 hC.2.1 d ht (fun c => kt (by rw [if_pos c] at hM; exact hM) hz H locs ls hW hS h) (fun c => kf (by rw [if_neg c] at hM; exact hM) hz H locs ls hW hS h)
theorem g_icmp_lt (hC : Cx X cc own L) {x y : Int32} {off : Int} {tgt : Nat} {a b : Option β} (d : decode cc pc = .ok (.if_icmp .lt off, 3)) (e : q = pc) (ht : (pc : Int) + off = (tgt : Int)) (hM : (if x < y then a else b) = some res) (kt : a = some res → G X cs ss n σ ρ tgt lv st) (kf : b = some res → G X cs ss n σ ρ (pc + 3) lv st) : G X cs ss n σ ρ q lv (.int y :: .int x :: st) := by
  subst e
  exact fun hz H locs ls hW hS h => lv_icmp_lt hC.1 hC.2.1 d ht (fun c => kt (by rw [if_pos c] at hM; exact hM) hz H locs ls hW hS h) (fun c => kf (by rw [if_neg c] at hM; exact hM) hz H locs ls hW hS h)
theorem g_if_ge (hC : Cx X cc own L) {x : Int32} {off : Int} {tgt : Nat} {a b : Option β} (d : decode cc pc = .ok (.ifCond .ge off, 3)) (e : q = pc) (ht : (pc : Int) + off = (tgt : Int)) (hM : (if 0 ≤ x then a else b) = some res) (kt : a = some res → G X cs ss n σ ρ tgt lv st) (kf : b = some res → G X cs ss n σ ρ (pc + 3) lv st) : G X cs ss n σ ρ q lv (.int x :: st) := by
  subst e
  exact fun hz H locs ls hW hS h => lv_if_ge hC.1 hC.2.1 d ht (fun c => kt (by rw [if_pos c] at hM; exact hM) hz H locs ls hW hS h) (fun c => kf (by rw [if_neg c] at hM; exact hM) hz H locs ls hW hS h)
theorem g_icmp_ge (hC : Cx X cc own L) {x y : Int32} {off : Int} {tgt : Nat} {a b : Option β} (d : decode cc pc = .ok (.if_icmp .ge off, 3)) (e : q = pc) (ht : (pc : Int) + off = (tgt : Int)) (hM : (if y ≤ x then a else b) = some res) (kt : a = some res → G X cs ss n σ ρ tgt lv st) (kf : b = some res → G X cs ss n σ ρ (pc + 3) lv st) : G X cs ss n σ ρ q lv (.int y :: .int x :: st) := by
  subst e
  exact fun hz H locs ls hW hS h => lv_icmp_ge hC.1 hC.2.1 d ht (fun c => kt (by rw [if_pos c] at hM; exact hM) hz H locs ls hW hS h) (fun c => kf (by rw [if_neg c] at hM; exact hM) hz H locs ls hW hS h)
theorem g_if_gt (hC : Cx X cc own L) {x : Int32} {off : Int} {tgt : Nat} {a b : Option β} (d : decode cc pc = .ok (.ifCond .gt off, 3)) (e : q = pc) (ht : (pc : Int) + off = (tgt : Int)) (hM : (if 0 < x then a else b) = some res) (kt : a = some res → G X cs ss n σ ρ tgt lv st) (kf : b = some res → G X cs ss n σ ρ (pc + 3) lv st) : G X cs ss n σ ρ q lv (.int x :: st) := by
  subst e
  exact fun hz H locs ls hW hS h => lv_if_gt hC.1 hC.2.1 d ht (fun c => kt (by rw [if_pos c] at hM; exact hM) hz H locs ls hW hS h) (fun c => kf (by rw [if_neg c] at hM; exact hM) hz H locs ls hW hS h)
theorem g_icmp_gt (hC : Cx X cc own L) {x y : Int32} {off : Int} {tgt : Nat} {a b : Option β} (d : decode cc pc = .ok (.if_icmp .gt off, 3)) (e : q = pc) (ht : (pc : Int) + off = (tgt : Int)) (hM : (if y < x then a else b) = some res) (kt : a = some res → G X cs ss n σ ρ tgt lv st) (kf : b = some res → G X cs ss n σ ρ (pc + 3) lv st) : G X cs ss n σ ρ q lv (.int y :: .int x :: st) := by
  subst e
  exact fun hz H locs ls hW hS h => lv_icmp_gt hC.1 hC.2.1 d ht (fun c => kt (by rw [if_pos c] at hM; exact hM) hz H locs ls hW hS h) (fun c => kf (by rw [if_neg c] at hM; exact hM) hz H locs ls hW hS h)
theorem g_if_le (hC : Cx X cc own L) {x : Int32} {off : Int} {tgt : Nat} {a b : Option β} (d : decode cc pc = .ok (.ifCond .le off, 3)) (e : q = pc) (ht : (pc : Int) + off = (tgt : Int)) (hM : (if x ≤ 0 then a else b) = some res) (kt : a = some res → G X cs ss n σ ρ tgt lv st) (kf : b = some res → G X cs ss n σ ρ (pc + 3) lv st) : G X cs ss n σ ρ q lv (.int x :: st) := by
  subst e
  exact fun hz H locs ls hW hS h => lv_if_le hC.1 hC.2.1 d ht (fun c => kt (by rw [if_pos c] at hM; exact hM) hz H locs ls hW hS h) (fun c => kf (by rw [if_neg c] at hM; exact hM) hz H locs ls hW hS h)
theorem g_icmp_le (hC : Cx X cc own L) {x y : Int32} {off : Int} {tgt : Nat} {a b : Option β} (d : decode cc pc = .ok (.if_icmp .le off, 3)) (e : q = pc) (ht : (pc : Int) + off = (tgt : Int)) (hM : (if x ≤ y then a else b) = some res) (kt : a = some res → G X cs ss n σ ρ tgt lv st) (kf : b = some res → G X cs ss n σ ρ (pc + 3) lv st) : G X cs ss n σ ρ q lv (.int y :: .int x :: st) := by
  subst e
  exact fun hz H locs ls hW hS h => lv_icmp_le hC.1 hC.2.1 d ht (fun c => kt (by rw [if_pos c] at hM; exact hM) hz H locs ls hW hS h) (fun c => kf (by rw [if_neg c] at hM; exact hM) hz H locs ls hW hS h)
theorem g_lcmp (hC : Cx X cc own L) {x y : Int64} (d : decode cc pc = .ok (.lcmp, 1)) (e : q = pc) (k : G X cs ss n σ ρ (pc + 1) lv (.int (lg_cmp x y) :: st)) : G X cs ss n σ ρ q lv (.long y :: .long x :: st) := by
  subst e; exact fun hz H locs ls hW hS h => W.lcmp hC.1 hC.2.1 d (k hz H locs ls hW hS h)
-- the same without naming, for bodies that are walked with their numbers known
theorem g_istore_n0 (hC : Cx X cc own L) {i : Fin 4} {nL : Nat} {x : Int32} (d : decode cc pc = .ok (.istore_n i, 1)) (e : q = pc) (hml : (xc X).maxLocals = nL) (hn : (i : Nat) < nL) (hl : lset lv i (.int x) = lv') (k : G X cs ss n σ ρ (pc + 1) lv' st) : G X cs ss n σ ρ q lv (.int x :: st) := by
  subst e; exact fun hz H locs ls hW hS h => lv_istore_n hC.1 hC.2.1 d rfl h (by rw [hml]; exact hn) hl (fun ls' h' => k hz H locs ls' hW hS h')
theorem g_iinc0 (hC : Cx X cc own L) {i nL j : Nat} {z : Int} {x v : Int32} (d : decode cc pc = .ok (.iinc i z, 3)) (e : q = pc) (hj : lv[j]? = some (i, .int x)) (hv : x + Int32.ofInt z = v) (hml : (xc X).maxLocals = nL) (hn : i < nL) (hl : lset lv i (.int v) = lv') (k : G X cs ss n σ ρ (pc + 3) lv' st) : G X cs ss n σ ρ q lv st := by
  subst e; exact fun hz H locs ls hW hS h => lv_iinc hC.1 hC.2.1 d h hj hv (by rw [hml]; exact hn) hl (fun ls' h' => k hz H locs ls' hW hS h')
theorem g_icmp_ge_t (hC : Cx X cc own L) {x y : Int32} {off : Int} {tgt : Nat} (d : decode cc pc = .ok (.if_icmp .ge off, 3)) (e : q = pc) (ht : (pc : Int) + off = (tgt : Int)) (c : y ≤ x) (kt : G X cs ss n σ ρ tgt lv st) : G X cs ss n σ ρ q lv (.int y :: .int x :: st) := by
  subst e
  exact fun hz H locs ls hW hS h => lv_icmp_ge hC.1 hC.2.1 d ht (fun _ => kt hz H locs ls hW hS h) (fun z => absurd c z)
theorem g_icmp_ge_f (hC : Cx X cc own L) {x y : Int32} {off : Int} {tgt : Nat} (d : decode cc pc = .ok (.if_icmp .ge off, 3)) (e : q = pc) (ht : (pc : Int) + off = (tgt : Int)) (c : ¬ y ≤ x) (kf : G X cs ss n σ ρ (pc + 3) lv st) : G X cs ss n σ ρ q lv (.int y :: .int x :: st) := by
  subst e
  exact fun hz H locs ls hW hS h => lv_icmp_ge hC.1 hC.2.1 d ht (fun z => absurd z c) (fun _ => kf hz H locs ls hW hS h)
theorem g_ite {c : Prop} [Decidable c] {a b : Option β} (hM : (if c then a else b) = some res) (kt : c → a = some res → G X cs ss n σ ρ pc lv st) (kf : ¬ c → b = some res → G X cs ss n σ ρ pc lv st) : G X cs ss n σ ρ pc lv st := by
  by_cases h : c
  · rw [if_pos h] at hM; exact kt h hM
  · rw [if_neg h] at hM; exact kf h hM
/-- loops: fuel -/
def fixN (bt : γ) (F : γ → γ) : Nat → γ
  | 0 => bt
  | k + 1 => F (fixN bt F k)
theorem fixN_ind {bt : γ} {F : γ → γ} {P : γ → Prop} (h0 : P bt) (hs : ∀ r, P r → P (F r)) : ∀ k, P (fixN bt F k)
  | 0 => h0
  | k + 1 => hs _ (fixN_ind h0 hs k)
def FU : Nat := 4000
end ROWS

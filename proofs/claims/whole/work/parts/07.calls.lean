/-! contracts over the world, calls, answers -/
abbrev EX : Type := Launch × va_G × (Nat → ClassId) × Nat × (Nat → Nat) × (Nat → Nat)
def xE (X : CX) : EX := (xl X, xD X, xA X, xb X, xK X, xV X)
abbrev eb (E : EX) : Nat := E.2.2.2.1
abbrev eK (E : EX) : Nat → Nat := E.2.2.2.2.1
def rmL (L mc ms : Nat) : Room := { frames := L, cells := mc, slots := ms, locals := 36 * L }
def WU (E : EX) (n : Nat) (σ : Sto) (ρ : Rho) (U : State) : Prop := U.heap.size = eb E + n ∧ Wd E.2.1 E.2.2.1 (eb E) n σ ρ U.heap ∧ va_K E.2.1 vwCl (tyL E.2.2.1) U ∧ Gl (eb E) E.2.2.2.2.1 E.2.2.2.2.2 U U.heap
/-- y, called with these, in this world, answers r, and the world is σ', ρ' -/
def CTi (E : EX) (y : MethodName) (cc : ByteArray) (nL : Nat) (ret : Option FieldType) (L : Nat) (avs : List Value) (n : Nat) (σ : Sto) (ρ : Rho) (r : Int32) (σ' : Sto) (ρ' : Rho) : Prop :=
  Met E.1 y (.code y cc nL ret :: lw_g) (rmL L 0 0) (va_Pc avs (WU E n σ ρ)) (va_Qi (fun r' (_ : Unit) => r' = r) (fun _ t => Wd E.2.1 E.2.2.1 (eb E) n σ' ρ' t.heap) (AA (eb E))) 0 0 (AA (eb E))
def CTv (E : EX) (y : MethodName) (cc : ByteArray) (nL : Nat) (L mc ms : Nat) (avs : List Value) (n : Nat) (σ : Sto) (ρ : Rho) (σ' : Sto) (ρ' : Rho) : Prop :=
  Met E.1 y (.code y cc nL none :: lw_g) (rmL L mc ms) (va_Pc avs (WU E n σ ρ)) (va_Qv (fun (_ : Unit) => True) (fun _ t => Wd E.2.1 E.2.2.1 (eb E) (n + mc) σ' ρ' t.heap) (AA (eb E))) mc ms (AA (eb E))
theorem lw_goodIn {y cc nL ret} (h : Cond.code y cc nL ret ∈ lw_g) : GoodIn lw_g (.code y cc nL ret :: lw_g) := by
  intro w hw
  rcases List.mem_cons.mp hw with rfl | hw
  · exact ⟨h, good_of_word (List.mem_filter.mp h).2⟩
  · exact ⟨hw, good_of_word (List.mem_filter.mp hw).2⟩
theorem blindP (avs : List Value) (E : EX) (n : Nat) (σ : Sto) (ρ : Rho) : FrameBlind (va_Pc avs (WU E n σ ρ)) := by
  intro a U g mk q
  obtain ⟨q0, q1, q2, q3, q4⟩ := q
  exact ⟨q0, q1, q2, va_K.moved (u := U) (U := U.calling g mk a) (Vm.Alike.refl U.vm) q3, Gl.same (u := U) (U := U.calling g mk a) rfl q4⟩
/-- what a call needs of the tables: the callee's code .. -/
def Yc (y : MethodName) (cc : ByteArray) (nL : Nat) (ret : Option FieldType) (nA : Nat) : Prop := Cond.code y cc nL ret ∈ lw_g ∧ Cond.initialized y.cls ∈ lw_g ∧ (y.cls ≠ "java/lang/invoke/MethodHandle" ∧ y.cls ≠ "java/lang/invoke/VarHandle" ∧ (parseMethodDescriptor y.desc).map (fun d => d.parameters.length) = some nA)
/-- .. of an object's method -/
def Yi (y : MethodName) : Prop := Cond.instanceMethod y ∈ lw_g ∧ Cond.selects y.cls y y ∈ lw_g
section CALLS
variable {X : CX} {cc : ByteArray} {own : String} {L cs ss n pc q : Nat} {σ : Sto} {ρ : Rho} {lv lv' : List (Nat × Value)} {st st' : List Value} {α β γ : Type} {res : β} {r : Int32}
theorem wu_of (hC : Cx X cc own L) (hz : (xs X).heap.size + cs = xb X + n) {H : Heap} {locs : List Loc} (hW : Wd (xD X) (xA X) (xb X) n σ ρ H) (hS : va_S (AA (xb X)) (xs X).heap H locs) (hle : H.size ≤ (xs X).heap.size + cs) {U : State} (hU : U.heap = H) (hw : (xs X).WarmedH U.vm) : WU (xE X) n σ ρ U := by
  refine ⟨?_, ?_, va_K.moved hw.alike hC.2.2.2.2.2.1, ?_⟩
  · rw [hU]; exact wd_size hW hS hz hC.2.2.2.2.2.2.2.2 hle
  · rw [hU]; exact hW
  · rw [hU]; exact Gl.warm hw (hC.2.2.2.2.2.2.1.kept (fun a h1 h2 => hS.2.1 a h1 h2))
theorem callb (hC : Cx X cc own L) {y : MethodName} {bytes : ByteArray} {maxL nA L' mc ms idx : Nat} {ret : Option FieldType} (hY : Yc y bytes maxL ret nA) (hl : Cond.methodLink own idx y ∈ lw_g) (hlev : L' < L ∧ maxL ≤ 17) :
    CallB (xR X) (xs X) (xa X) own idx y bytes maxL ret (.code y bytes maxL ret :: lw_g) (rmL L' mc ms) mc ms nA := by
  refine callB_of nA hC.2.2.2.1 (lw_goodIn hY.1) rfl rfl rfl (hC.2.2.2.1 _ hY.2.1) (hC.2.2.2.1 _ hl) hY.2.2 ⟨?_, ?_⟩
  · show L' + 1 ≤ (xR X).frames
    have := hC.2.2.2.2.2.2.2.1.1; omega
  · show 8 + (maxL + 11) + 36 * L' ≤ (xR X).locals
    have := hC.2.2.2.2.2.2.2.1.2; omega
theorem wd_recv (hC : Cx X cc own L) {k ci N : Nat} {C : String} {T : u_T} (hsh : Sh n k ci) (hci : ci < 20) (hc : vwCl[ci]? = some (C, T, N)) {H : Heap} (hW : Wd (xD X) (xA X) (xb X) n σ ρ H) : ∃ cell : Cell, H[xb X + k]? = some cell ∧ cell.vm.isStatics = false ∧ (xs X).vm.findClass C = some cell.cls :=
  va_recv hC.2.2.2.2.2.1 hW.1 hc (by rw [wL_get hsh.1, cE_obj hsh.2 hci])
/-- a call of an object's method that answers a number -/
theorem g_callVi (hC : Cx X cc own L) {y : MethodName} {bytes : ByteArray} {maxL nA L' k ci N idx : Nat} {ret : Option FieldType} {T0 : u_T} {As : List Value} {o : Option γ} {f : γ → Option β} {R : γ → Int32} {S : γ → Sto} {T : γ → Rho}
    (hY : Yc y bytes maxL ret nA) (hI : Yi y) (hl : Cond.methodLink own idx y ∈ lw_g) (hlev : L' < L ∧ maxL ≤ 17) (hsh : Sh n k ci) (hci : ci < 20) (hc : vwCl[ci]? = some (y.cls, T0, N)) (d : decode cc pc = .ok (.invokevirtual idx, 3)) (e : q = pc)
    (hst : st = As.reverse ++ vr X k :: st') (hn : As.length = nA) (hcat : (st'.map fun v => v.category).sum ≤ 8) (hf : cs ≤ (xR X).cells ∧ ss ≤ (xR X).slots)
    (hM : Option.bind o f = some res) (hct : ∀ c, o = some c → CTi (xE X) y bytes maxL ret L' (vr X k :: As) n σ ρ (R c) (S c) (T c))
    (kk : ∀ c, f c = some res → G X cs ss n (S c) (T c) (pc + 3) lv (.int (R c) :: st')) : G X cs ss n σ ρ q lv st := by
  subst e
  subst hst
  cases o with
  | none => cases hM
  | some c =>
    intro hz H locs ls hW hS h
    refine w_size (fun hle => ?_)
    refine va_calli (A0 := AA (xb X)) (va_runV (As := As) (rest := st') (b := xb X + k) ⟨hC.1, hC.2.1, rfl, hC.2.2.1, hC.2.2.2.1⟩ (hct c rfl) ⟨callb hC hY hl hlev, hC.2.2.2.1 _ hI.1, hC.2.2.2.1 _ hI.2⟩ ⟨blindP _ _ _ _ _, wd_recv hC hsh hci hc hW, fun U hU hw => ⟨rfl, wu_of hC hz hW hS hle hU hw⟩⟩ rfl hn h.1 rfl (lv_room hcat) d hf) hS (fun q _ h => h) (fun q h => h) (fun r u t H1 locs1 ht hvm hp hB hsz hk hS1 => ?_)
    subst hp
    rw [ht] at hB
    exact kk c hM hz H1 locs1 ls hB hS1 h
theorem g_callVv (hC : Cx X cc own L) {y : MethodName} {bytes : ByteArray} {maxL nA L' k ci N idx mc ms : Nat} {T0 : u_T} {As : List Value} {o : Option γ} {f : γ → Option β} {S : γ → Sto} {T : γ → Rho}
    (hY : Yc y bytes maxL none nA) (hI : Yi y) (hl : Cond.methodLink own idx y ∈ lw_g) (hlev : L' < L ∧ maxL ≤ 17) (hsh : Sh n k ci) (hci : ci < 20) (hc : vwCl[ci]? = some (y.cls, T0, N)) (d : decode cc pc = .ok (.invokevirtual idx, 3)) (e : q = pc)
    (hst : st = As.reverse ++ vr X k :: st') (hn : As.length = nA) (hcat : (st'.map fun v => v.category).sum ≤ 8) (hf : cs + mc ≤ (xR X).cells ∧ ss + ms ≤ (xR X).slots)
    (hM : Option.bind o f = some res) (hct : ∀ c, o = some c → CTv (xE X) y bytes maxL L' mc ms (vr X k :: As) n σ ρ (S c) (T c))
    (kk : ∀ c, f c = some res → G X (cs + mc) (ss + ms) (n + mc) (S c) (T c) (pc + 3) lv st') : G X cs ss n σ ρ q lv st := by
  subst e
  subst hst
  cases o with
  | none => cases hM
  | some c =>
    intro hz H locs ls hW hS h
    refine w_size (fun hle => ?_)
    refine va_callv (A0 := AA (xb X)) (va_runV (As := As) (rest := st') (b := xb X + k) ⟨hC.1, hC.2.1, rfl, hC.2.2.1, hC.2.2.2.1⟩ (hct c rfl) ⟨callb hC hY hl hlev, hC.2.2.2.1 _ hI.1, hC.2.2.2.1 _ hI.2⟩ ⟨blindP _ _ _ _ _, wd_recv hC hsh hci hc hW, fun U hU hw => ⟨rfl, wu_of hC hz hW hS hle hU hw⟩⟩ rfl hn h.1 rfl (lv_room hcat) d hf) hS (fun q _ h => h) (fun q h => h) (fun u t H1 locs1 ht hvm hp hB hsz hk hS1 => ?_)
    rw [ht] at hB
    exact kk c hM (by omega) H1 locs1 ls hB hS1 h
/-- a call of a static method -/
theorem g_callSi (hC : Cx X cc own L) {y : MethodName} {bytes : ByteArray} {maxL nA L' idx : Nat} {ret : Option FieldType} {As : List Value} {o : Option γ} {f : γ → Option β} {R : γ → Int32} {S : γ → Sto} {T : γ → Rho}
    (hY : Yc y bytes maxL ret nA) (hI : Cond.static y ∈ lw_g) (hl : Cond.methodLink own idx y ∈ lw_g) (hlev : L' < L ∧ maxL ≤ 17) (d : decode cc pc = .ok (.invokestatic idx, 3)) (e : q = pc)
    (hst : st = As.reverse ++ st') (hn : As.length = nA) (hcat : (st'.map fun v => v.category).sum ≤ 8) (hf : cs ≤ (xR X).cells ∧ ss ≤ (xR X).slots)
    (hM : Option.bind o f = some res) (hct : ∀ c, o = some c → CTi (xE X) y bytes maxL ret L' As n σ ρ (R c) (S c) (T c))
    (kk : ∀ c, f c = some res → G X cs ss n (S c) (T c) (pc + 3) lv (.int (R c) :: st')) : G X cs ss n σ ρ q lv st := by
  subst e
  subst hst
  cases o with
  | none => cases hM
  | some c =>
    intro hz H locs ls hW hS h
    refine w_size (fun hle => ?_)
    refine va_calli (A0 := AA (xb X)) (va_runS (As := As) (rest := st') ⟨hC.1, hC.2.1, rfl, hC.2.2.1, hC.2.2.2.1⟩ (hct c rfl) ⟨callb hC hY hl hlev, hC.2.2.2.1 _ hI⟩ ⟨blindP _ _ _ _ _, fun U hU hw => ⟨rfl, wu_of hC hz hW hS hle hU hw⟩⟩ rfl hn h.1 rfl (lv_room hcat) d hf) hS (fun q _ h => h) (fun q h => h) (fun r u t H1 locs1 ht hvm hp hB hsz hk hS1 => ?_)
    subst hp
    rw [ht] at hB
    exact kk c hM hz H1 locs1 ls hB hS1 h
theorem nestw (hC : Cx X cc own L) {a h : String} {k : Nat} {x : MethodName} (hm : (a, k, x, h) ∈ nestL) : va_Nw (.methodLinkNest a k x h) (xs X) := hC.2.2.2.2.2.2.1.2.2.2.2.2.1 _ hm
theorem calln (hC : Cx X cc own L) {y : MethodName} {bytes : ByteArray} {host : String} {maxL nA L' mc ms idx : Nat} {ret : Option FieldType} (hY : Yc y bytes maxL ret nA) (hl : (own, idx, y, host) ∈ nestL) (hlev : L' < L ∧ maxL ≤ 17) :
    va_CN (xR X) (xs X) (xa X) own idx y host bytes maxL ret (.code y bytes maxL ret :: lw_g) (rmL L' mc ms) mc ms nA := by
  refine va_cnB nA hC.2.2.2.1 (lw_goodIn hY.1) rfl rfl rfl (nestw hC hl) (hC.2.2.2.1 _ hY.2.1) hY.2.2 ⟨?_, ?_⟩
  · show L' + 1 ≤ (xR X).frames
    have := hC.2.2.2.2.2.2.2.1.1; omega
  · show 8 + (maxL + 11) + 36 * L' ≤ (xR X).locals
    have := hC.2.2.2.2.2.2.2.1.2; omega
/-- a call of a private static method of a nest mate -/
theorem g_callSNi (hC : Cx X cc own L) {y : MethodName} {bytes : ByteArray} {host : String} {maxL nA L' idx : Nat} {ret : Option FieldType} {As : List Value} {o : Option γ} {f : γ → Option β} {R : γ → Int32} {S : γ → Sto} {T : γ → Rho}
    (hY : Yc y bytes maxL ret nA) (hI : Cond.static y ∈ lw_g) (hl : (own, idx, y, host) ∈ nestL) (hlev : L' < L ∧ maxL ≤ 17) (d : decode cc pc = .ok (.invokestatic idx, 3)) (e : q = pc)
    (hst : st = As.reverse ++ st') (hn : As.length = nA) (hcat : (st'.map fun v => v.category).sum ≤ 8) (hf : cs ≤ (xR X).cells ∧ ss ≤ (xR X).slots)
    (hM : Option.bind o f = some res) (hct : ∀ c, o = some c → CTi (xE X) y bytes maxL ret L' As n σ ρ (R c) (S c) (T c))
    (kk : ∀ c, f c = some res → G X cs ss n (S c) (T c) (pc + 3) lv (.int (R c) :: st')) : G X cs ss n σ ρ q lv st := by
  subst e
  subst hst
  cases o with
  | none => cases hM
  | some c =>
    intro hz H locs ls hW hS h
    refine w_size (fun hle => ?_)
    refine va_calli (A0 := AA (xb X)) (va_runSN (As := As) (rest := st') ⟨hC.1, hC.2.1, rfl, hC.2.2.1, hC.2.2.2.1⟩ (hct c rfl) ⟨calln hC hY hl hlev, hC.2.2.2.1 _ hI, trivial⟩ ⟨blindP _ _ _ _ _, fun U hU hw => ⟨rfl, wu_of hC hz hW hS hle hU hw⟩⟩ rfl hn h.1 rfl (lv_room hcat) d hf) hS (fun q _ h => h) (fun q h => h) (fun r u t H1 locs1 ht hvm hp hB hsz hk hS1 => ?_)
    subst hp
    rw [ht] at hB
    exact kk c hM hz H1 locs1 ls hB hS1 h
/-- constructors: of one's own choice, and of a nest mate's -/
theorem g_callIv (hC : Cx X cc own L) {y : MethodName} {bytes : ByteArray} {maxL nA L' k idx mc ms : Nat} {As : List Value} {o : Option γ} {f : γ → Option β} {S : γ → Sto} {T : γ → Rho}
    (hY : Yc y bytes maxL none nA) (hI : y.name = "<init>" ∧ Cond.instanceMethod y ∈ lw_g) (hl : Cond.methodLink own idx y ∈ lw_g) (hlev : L' < L ∧ maxL ≤ 17) (d : decode cc pc = .ok (.invokespecial idx, 3)) (e : q = pc)
    (hst : st = As.reverse ++ vr X k :: st') (hn : As.length = nA) (hcat : (st'.map fun v => v.category).sum ≤ 8) (hf : cs + mc ≤ (xR X).cells ∧ ss + ms ≤ (xR X).slots)
    (hM : Option.bind o f = some res) (hct : ∀ c, o = some c → CTv (xE X) y bytes maxL L' mc ms (vr X k :: As) n σ ρ (S c) (T c))
    (kk : ∀ c, f c = some res → G X (cs + mc) (ss + ms) (n + mc) (S c) (T c) (pc + 3) lv st') : G X cs ss n σ ρ q lv st := by
  subst e
  subst hst
  cases o with
  | none => cases hM
  | some c =>
    intro hz H locs ls hW hS h
    refine w_size (fun hle => ?_)
    refine va_callv (A0 := AA (xb X)) (va_runI (As := As) (rest := st') (b := xb X + k) ⟨hC.1, hC.2.1, rfl, hC.2.2.1, hC.2.2.2.1⟩ (hct c rfl) ⟨callb hC hY hl hlev, hI.1, hC.2.2.2.1 _ hI.2⟩ ⟨blindP _ _ _ _ _, fun U hU hw => ⟨rfl, wu_of hC hz hW hS hle hU hw⟩⟩ rfl hn h.1 rfl (lv_room hcat) d hf) hS (fun q _ h => h) (fun q h => h) (fun u t H1 locs1 ht hvm hp hB hsz hk hS1 => ?_)
    rw [ht] at hB
    exact kk c hM (by omega) H1 locs1 ls hB hS1 h
theorem g_callINv (hC : Cx X cc own L) {y : MethodName} {bytes : ByteArray} {host : String} {maxL nA L' k idx mc ms : Nat} {As : List Value} {o : Option γ} {f : γ → Option β} {S : γ → Sto} {T : γ → Rho}
    (hY : Yc y bytes maxL none nA) (hI : y.name = "<init>" ∧ Cond.instanceMethod y ∈ lw_g) (hl : (own, idx, y, host) ∈ nestL) (hlev : L' < L ∧ maxL ≤ 17) (d : decode cc pc = .ok (.invokespecial idx, 3)) (e : q = pc)
    (hst : st = As.reverse ++ vr X k :: st') (hn : As.length = nA) (hcat : (st'.map fun v => v.category).sum ≤ 8) (hf : cs + mc ≤ (xR X).cells ∧ ss + ms ≤ (xR X).slots)
    (hM : Option.bind o f = some res) (hct : ∀ c, o = some c → CTv (xE X) y bytes maxL L' mc ms (vr X k :: As) n σ ρ (S c) (T c))
    (kk : ∀ c, f c = some res → G X (cs + mc) (ss + ms) (n + mc) (S c) (T c) (pc + 3) lv st') : G X cs ss n σ ρ q lv st := by
  subst e
  subst hst
  cases o with
  | none => cases hM
  | some c =>
    intro hz H locs ls hW hS h
    refine w_size (fun hle => ?_)
    refine va_callv (A0 := AA (xb X)) (va_runIN (As := As) (rest := st') (b := xb X + k) ⟨hC.1, hC.2.1, rfl, hC.2.2.1, hC.2.2.2.1⟩ (hct c rfl) ⟨calln hC hY hl hlev, hI.1, hC.2.2.2.1 _ hI.2⟩ ⟨blindP _ _ _ _ _, fun U hU hw => ⟨rfl, wu_of hC hz hW hS hle hU hw⟩⟩ rfl hn h.1 rfl (lv_room hcat) d hf) hS (fun q _ h => h) (fun q h => h) (fun u t H1 locs1 ht hvm hp hB hsz hk hS1 => ?_)
    rw [ht] at hB
    exact kk c hM (by omega) H1 locs1 ls hB hS1 h
theorem g_objInit (hC : Cx X cc own L) {idx k : Nat} (hl : Cond.methodLink own idx Lib.objectInit ∈ lw_g) (hi : Cond.instanceMethod Lib.objectInit ∈ lw_g) (hcode : Cond.code Lib.objectInit ⟨#[0xb1]⟩ 1 none ∈ lw_g) (hlev : 1 ≤ L) (d : decode cc pc = .ok (.invokespecial idx, 3)) (e : q = pc) (hcat : (st.map fun v => v.category).sum ≤ 8) (kk : G X cs ss n σ ρ (pc + 3) lv st) : G X cs ss n σ ρ q lv (vr X k :: st) := by
  subst e
  intro hz H locs ls hW hS h
  refine W.objInit hC.1 hC.2.1 hC.2.2.1 (hC.2.2.2.1 _ hl) (hC.2.2.2.1 _ hi) (hC.2.2.2.1 _ hcode) rfl h.1 rfl d (by have := hC.2.2.2.2.2.2.2.1.1; omega) ?_ ?_
  · have := hC.2.2.2.2.2.2.2.1.2
    show 2 * 0 + (st.map fun v => v.category).sum + 12 ≤ (xR X).locals
    omega
  · exact W.eq (g2 := F0 (xm X) (q + 3) ls st) rfl (kk hz H locs ls hW hS h)
-- answers
def RtI (X : CX) (cc : ByteArray) (n : Nat) (r : Int32) (σ : Sto) (ρ : Rho) : Prop := ∀ (pc : Nat) (lv : List (Nat × Value)), decode cc pc = .ok (.ireturn, 1) → G X 0 0 n σ ρ pc lv [.int r]
def RtV (X : CX) (cc : ByteArray) (cs ss n : Nat) (σ : Sto) (ρ : Rho) : Prop := ∀ (pc : Nat) (lv : List (Nat × Value)), decode cc pc = .ok (.return_, 1) → G X cs ss n σ ρ pc lv []
/-- a boolean's answer is 0 or 1 -/
def zr (r : Int32) (o : Option β) : Option β := if r = 0 ∨ r = 1 then o else none
def RtZ (X : CX) (cc : ByteArray) (n : Nat) (r : Int32) (σ : Sto) (ρ : Rho) : Prop := ∀ (pc : Nat) (lv : List (Nat × Value)), decode cc pc = .ok (.ireturn, 1) → (r = 0 ∨ r = 1) → G X 0 0 n σ ρ pc lv [.int r]
def RtT (ret : Option FieldType) (X : CX) (cc : ByteArray) (n : Nat) (r : Int32) (σ : Sto) (ρ : Rho) : Prop := ∀ (pc : Nat) (lv : List (Nat × Value)), decode cc pc = .ok (.ireturn, 1) → (∀ ty, ret = some ty → narrow ty (.int r) = .int r) → G X 0 0 n σ ρ pc lv [.int r]
theorem ct_i {E : EX} {y : MethodName} {nL : Nat} {ret : Option FieldType} {ty : FieldType} {avs : List Value} {r : Int32} {σ' : Sto} {ρ' : Rho} (hy : plainFor y = true) (hret : ret = some ty) (hlen : (lg_sl avs).length ≤ nL)
    (h : ∀ X : CX, xE X = E → (xc X).maxLocals = nL → Cx X cc y.cls L → RtT ret X cc n r σ' ρ' → G X 0 0 n σ ρ 0 (lv_args 0 avs) []) : CTi E y cc nL ret L avs n σ ρ r σ' ρ' := by
  obtain ⟨l, D, dA, b, adK, adV⟩ := E
  refine va_MetF (cc := cc) (maxL := nL) (ret := ret) hy rfl ?_
  intro p e s m args below meth c s₁ B hml hv
  obtain ⟨rfl, hsz, hW, hK, hGl⟩ := hv
  have hlocks := B.notSynchronized
  have hrt := B.returns
  have hts := atoms_spec (ws := Cond.code y cc nL ret :: lw_g) B.pre
  have hC : Cx (p, l, e, rmL L 0 0, s, m, avs.toArray, below, meth, c, D, dA, b, adK, adV, MQ below (va_Qi (fun r' (_ : Unit) => r' = r) (fun _ t => Wd D dA b n σ' ρ' t.heap) (AA b)) avs.toArray s 0 0 (AA b)) cc y.cls L := by
    refine ⟨B.exec, B.bytes, findClass_of_methodNamed B.named, fun w hw => hts w (List.mem_cons_of_mem _ hw), hlocks, hK, hGl, ⟨Nat.le_refl _, Nat.le_refl _⟩, ?_⟩
    show b ≤ s.heap.size
    have h9 : s.heap.size = b + n := hsz
    omega
  have hl := lv_entry avs (n := nL) hlen
  rw [lg_entry_eq]
  generalize (lg_sl avs ++ List.replicate (nL - (lg_sl avs).length) Slot.unset).toArray = ls at hl ⊢
  refine h _ rfl hml hC ?_ (by show s.heap.size + 0 = b + n; exact hsz) s.heap [] ls hW va_S.rf (by rw [show (xc (p, l, e, rmL L 0 0, s, m, avs.toArray, below, meth, c, D, dA, b, adK, adV, MQ below (va_Qi (fun r' (_ : Unit) => r' = r) (fun _ t => Wd D dA b n σ' ρ' t.heap) (AA b)) avs.toArray s 0 0 (AA b))).maxLocals = nL from hml]; exact hl)
  intro pc lv hd hnar hz H locs ls' hW' hS' h'
  exact W.zret (ty := ty) B.exec B.bytes (by rw [hrt, hret]) (hnar ty hret) (fun t ht hWt => ⟨⟨r, (), rfl, rfl, by show Wd D dA b n σ' ρ' t.heap; rw [ht]; exact hW'⟩, va_S.F hS' ht⟩) hS'.2.2 hd (hlocks := hlocks)
theorem ct_v {E : EX} {y : MethodName} {nL mc ms : Nat} {avs : List Value} {σ' : Sto} {ρ' : Rho} (hy : plainFor y = true) (hlen : (lg_sl avs).length ≤ nL)
    (h : ∀ X : CX, xE X = E → (xc X).maxLocals = nL → (xh X).name = y.name → (xR X).cells = mc ∧ (xR X).slots = ms → Cx X cc y.cls L → RtV X cc mc ms (n + mc) σ' ρ' → G X 0 0 n σ ρ 0 (lv_args 0 avs) []) : CTv E y cc nL L mc ms avs n σ ρ σ' ρ' := by
  obtain ⟨l, D, dA, b, adK, adV⟩ := E
  refine va_MetF (cc := cc) (maxL := nL) (ret := none) hy rfl ?_
  intro p e s m args below meth c s₁ B hml hv
  obtain ⟨rfl, hsz, hW, hK, hGl⟩ := hv
  have hlocks := B.notSynchronized
  have hrt := B.returns
  have hts := atoms_spec (ws := Cond.code y cc nL none :: lw_g) B.pre
  have hnm : meth.name = y.name := (name_of_methodNamed B.named B.method).1
  have hC : Cx (p, l, e, rmL L mc ms, s, m, avs.toArray, below, meth, c, D, dA, b, adK, adV, MQ below (va_Qv (fun (_ : Unit) => True) (fun _ t => Wd D dA b (n + mc) σ' ρ' t.heap) (AA b)) avs.toArray s mc ms (AA b)) cc y.cls L := by
    refine ⟨B.exec, B.bytes, findClass_of_methodNamed B.named, fun w hw => hts w (List.mem_cons_of_mem _ hw), hlocks, hK, hGl, ⟨Nat.le_refl _, Nat.le_refl _⟩, ?_⟩
    show b ≤ s.heap.size
    have h9 : s.heap.size = b + n := hsz
    omega
  have hl := lv_entry avs (n := nL) hlen
  rw [lg_entry_eq]
  generalize (lg_sl avs ++ List.replicate (nL - (lg_sl avs).length) Slot.unset).toArray = ls at hl ⊢
  refine h _ rfl hml hnm ⟨rfl, rfl⟩ hC ?_ (by show s.heap.size + 0 = b + n; exact hsz) s.heap [] ls hW va_S.rf (by rw [show (xc (p, l, e, rmL L mc ms, s, m, avs.toArray, below, meth, c, D, dA, b, adK, adV, MQ below (va_Qv (fun (_ : Unit) => True) (fun _ t => Wd D dA b (n + mc) σ' ρ' t.heap) (AA b)) avs.toArray s mc ms (AA b))).maxLocals = nL from hml]; exact hl)
  intro pc lv hd hz H locs ls' hW' hS' h'
  exact W.vret B.exec B.bytes hrt (fun t ht hWt => ⟨⟨(), rfl, trivial, by show Wd D dA b (n + mc) σ' ρ' t.heap; rw [ht]; exact hW'⟩, va_S.F hS' ht⟩) hS'.2.2 hd (hlocks := hlocks)
theorem g_callVv0 (hC : Cx X cc own L) {y : MethodName} {bytes : ByteArray} {maxL nA L' k ci N idx : Nat} {T0 : u_T} {As : List Value} {o : Option γ} {f : γ → Option β} {S : γ → Sto} {T : γ → Rho}
    (hY : Yc y bytes maxL none nA) (hI : Yi y) (hl : Cond.methodLink own idx y ∈ lw_g) (hlev : L' < L ∧ maxL ≤ 17) (hsh : Sh n k ci) (hci : ci < 20) (hc : vwCl[ci]? = some (y.cls, T0, N)) (d : decode cc pc = .ok (.invokevirtual idx, 3)) (e : q = pc)
    (hst : st = As.reverse ++ vr X k :: st') (hn : As.length = nA) (hcat : (st'.map fun v => v.category).sum ≤ 8) (hf : cs ≤ (xR X).cells ∧ ss ≤ (xR X).slots)
    (hM : Option.bind o f = some res) (hct : ∀ c, o = some c → CTv (xE X) y bytes maxL L' 0 0 (vr X k :: As) n σ ρ (S c) (T c))
    (kk : ∀ c, f c = some res → G X cs ss n (S c) (T c) (pc + 3) lv st') : G X cs ss n σ ρ q lv st :=
  g_callVv hC hY hI hl hlev hsh hci hc d e hst hn hcat hf hM hct kk
theorem g_reti (hR : RtT (some .int) X cc n r σ ρ) (d : decode cc pc = .ok (.ireturn, 1)) (e : q = pc) : G X 0 0 n σ ρ q lv [.int r] := by
  subst e
  exact hR _ lv d (fun ty h => by cases h; rfl)
theorem g_retz {o : Option β} {x : Int32} (hM : zr x o = some res) (d : decode cc pc = .ok (.ireturn, 1)) (e : q = pc) (hR : o = some res → RtT (some .boolean) X cc n x σ ρ) : G X 0 0 n σ ρ q lv [.int x] := by
  subst e
  unfold zr at hM
  by_cases h : x = 0 ∨ x = 1
  · rw [if_pos h] at hM
    refine hR hM _ lv d (fun ty h9 => by cases h9; rcases h with h | h <;> (subst h; rfl))
  · rw [if_neg h] at hM; cases hM
theorem g_retv (hR : RtV X cc cs ss n σ ρ) (d : decode cc pc = .ok (.return_, 1)) (e : q = pc) : G X cs ss n σ ρ q lv [] := by
  subst e
  exact hR _ lv d
end CALLS

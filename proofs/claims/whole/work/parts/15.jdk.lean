/-! the JDK's own methods over the four literals -/
section STR
variable {X : CX} {cc : ByteArray} {own : String} {L cs ss n pc q : Nat} {σ : Sto} {ρ : Rho} {lv lv' : List (Nat × Value)} {st st' : List Value} {α β γ : Type} {res : β}
theorem gl_S (hC : Cx X cc own L) : vk_S stN stL stB (xK X) (xV X) (AA (xb X)) (xs X) (xs X).heap := hC.2.2.2.2.2.2.1.2.2.2.1
theorem g_ldcS (hC : Cx X cc RX7 L) {i index : Nat} (hi : i < stN) (he : stK.getD i 0 = index) (d : decode cc pc = .ok (.ldc index, 2)) (e : q = pc) (k : G X cs ss n σ ρ (pc + 2) lv (.ref (xK X i) :: st)) : G X cs ss n σ ρ q lv st := by
  subst e; subst he
  exact fun hz H locs ls hW hS h => va_ldcS hC.1 hC.2.1 hC.2.2.1 (hC.2.2.2.2.2.2.1.2.2.2.2.1 i hi) d (k hz H locs ls hW hS h)
theorem g_sval (hC : Cx X cc own L) {i index : Nat} (hi : i < stN) (hw : Cond.fieldLink own index "java/lang/String" "value" "[B" ∈ lw_g) (d : decode cc pc = .ok (.getfield index, 3)) (e : q = pc) (k : G X cs ss n σ ρ (pc + 3) lv (.ref (xV X i) :: st)) : G X cs ss n σ ρ q lv (.ref (xK X i) :: st) := by
  subst e
  exact fun hz H locs ls hW hS h => vk_getf hC.1 hC.2.1 ((gl_S hC).1 i hi).2.2.1 hS hC.2.2.1 (hC.2.2.2.1 _ hw) (fun x hx => hx) d (k hz H locs ls hW hS h)
theorem g_scod (hC : Cx X cc own L) {i index : Nat} (hi : i < stN) (hw : Cond.fieldLink own index "java/lang/String" "coder" "B" ∈ lw_g) (d : decode cc pc = .ok (.getfield index, 3)) (e : q = pc) (k : G X cs ss n σ ρ (pc + 3) lv (.int 0 :: st)) : G X cs ss n σ ρ q lv (.ref (xK X i) :: st) := by
  subst e
  exact fun hz H locs ls hW hS h => vk_getf hC.1 hC.2.1 ((gl_S hC).1 i hi).2.1 hS hC.2.2.1 (hC.2.2.2.1 _ hw) (fun x hx => hx) d (k hz H locs ls hW hS h)
theorem g_slenV (hC : Cx X cc own L) {i : Nat} (hi : i < stN) (d : decode cc pc = .ok (.arraylength, 1)) (e : q = pc) (k : G X cs ss n σ ρ (pc + 1) lv (.int (Int32.ofNat (stL.getD i 0)) :: st)) : G X cs ss n σ ρ q lv (.ref (xV X i) :: st) := by
  subst e
  exact fun hz H locs ls hW hS h => va_tlen hC.1 hC.2.1 ((gl_S hC).1 i hi).2.2.2 hS rfl d (k hz H locs ls hW hS h)
theorem g_sbald (hC : Cx X cc own L) {i : Nat} {j : Int32} (hi : i < stN) (hj : ¬ (j < 0 ∨ stL.getD i 0 ≤ j.toNatClampNeg)) (d : decode cc pc = .ok (.baload, 1)) (e : q = pc) (k : G X cs ss n σ ρ (pc + 1) lv (.int ((stB.getD i []).getD j.toNatClampNeg 0) :: st)) : G X cs ss n σ ρ q lv (.int j :: .ref (xV X i) :: st) := by
  subst e
  exact fun hz H locs ls hW hS h => va_tb hC.1 hC.2.1 ((gl_S hC).1 i hi).2.2.2 hS hj rfl d (k hz H locs ls hW hS h)
theorem g_getsC (hC : Cx X cc own L) {index : Nat} (hw : Cond.fieldLink own index "java/lang/String" "COMPACT_STRINGS" "Z" ∈ lw_g) (d : decode cc pc = .ok (.getstatic index, 3)) (e : q = pc) (k : G X cs ss n σ ρ (pc + 3) lv (.int 1 :: st)) : G X cs ss n σ ρ q lv st := by
  subst e
  exact fun hz H locs ls hW hS h => va_gets hC.1 hC.2.1 hC.2.2.2.2.2.2.1.2.1 hS hC.2.2.1 (hC.2.2.2.1 _ hw) (fun x hx => hx) d (k hz H locs ls hW hS h)
theorem g_getsF (hC : Cx X cc own L) {index : Nat} (hw : Cond.fieldLink own index "jdk/internal/util/Preconditions" "SIOOBE_FORMATTER" "Ljava/util/function/BiFunction;" ∈ lw_g) (d : decode cc pc = .ok (.getstatic index, 3)) (e : q = pc) (k : ∀ v : Value, (v = .null ∨ ∃ t, v = .ref t) → G X cs ss n σ ρ (pc + 3) lv (v :: st)) : G X cs ss n σ ρ q lv st := by
  subst e
  intro hz H locs ls hW hS h
  rcases hC.2.2.2.2.2.2.1.2.2.1 with h1 | ⟨t, h1⟩
  · exact va_gets hC.1 hC.2.1 h1 hS hC.2.2.1 (hC.2.2.2.1 _ hw) (fun x hx => hx) d (k _ (Or.inl rfl) hz H locs ls hW hS h)
  · exact va_gets hC.1 hC.2.1 h1 hS hC.2.2.1 (hC.2.2.2.1 _ hw) (fun x hx => hx) d (k _ (Or.inr ⟨t, rfl⟩) hz H locs ls hW hS h)
theorem g_callStr (hC : Cx X cc own L) {y : MethodName} {bytes : ByteArray} {maxL nA L' i idx : Nat} {ret : Option FieldType} {As : List Value} {o : Option γ} {f : γ → Option β} {R : γ → Int32} {S : γ → Sto} {T : γ → Rho}
    (hY : Yc y bytes maxL ret nA) (hI : Yi y) (hl : Cond.methodLink own idx y ∈ lw_g) (hlev : L' < L ∧ maxL ≤ 17) (hcls : y.cls = "java/lang/String") (hi : i < stN) (d : decode cc pc = .ok (.invokevirtual idx, 3)) (e : q = pc)
    (hst : st = As.reverse ++ .ref (xK X i) :: st') (hn : As.length = nA) (hcat : (st'.map fun v => v.category).sum ≤ 8) (hf : cs ≤ (xR X).cells ∧ ss ≤ (xR X).slots)
    (hM : Option.bind o f = some res) (hct : ∀ c, o = some c → CTi (xE X) y bytes maxL ret L' (.ref (xK X i) :: As) n σ ρ (R c) (S c) (T c))
    (kk : ∀ c, f c = some res → G X cs ss n (S c) (T c) (pc + 3) lv (.int (R c) :: st')) : G X cs ss n σ ρ q lv st := by
  subst e
  subst hst
  cases o with
  | none => cases hM
  | some c =>
    intro hz H locs ls hW hS h
    refine w_size (fun hle => ?_)
    refine va_calli (A0 := AA (xb X)) (va_runV (As := As) (rest := st') (b := xK X i) ⟨hC.1, hC.2.1, rfl, hC.2.2.1, hC.2.2.2.1⟩ (hct c rfl) ⟨callb hC hY hl hlev, hC.2.2.2.1 _ hI.1, hC.2.2.2.1 _ hI.2⟩ ⟨blindP _ _ _ _ _, by rw [hcls]; exact vk_recv (gl_S hC) hi hS, fun U hU hw => ⟨rfl, wu_of hC hz hW hS hle hU hw⟩⟩ rfl hn h.1 rfl (lv_room hcat) d hf) hS (fun q _ h => h) (fun q h => h) (fun r u t H1 locs1 ht hvm hp hB hsz hk hk_502 => ?_)
    subst hp
    rw [ht] at hB
    exact kk c hM hz H1 locs1 ls hB hk_502 h
theorem g_callSv (hC : Cx X cc own L) {y : MethodName} {bytes : ByteArray} {maxL nA L' idx : Nat} {As : List Value}
    (hY : Yc y bytes maxL none nA) (hI : Cond.static y ∈ lw_g) (hl : Cond.methodLink own idx y ∈ lw_g) (hlev : L' < L ∧ maxL ≤ 17) (d : decode cc pc = .ok (.invokestatic idx, 3)) (e : q = pc)
    (hst : st = As.reverse ++ st') (hn : As.length = nA) (hcat : (st'.map fun v => v.category).sum ≤ 8) (hf : cs ≤ (xR X).cells ∧ ss ≤ (xR X).slots)
    (hct : CTv (xE X) y bytes maxL L' 0 0 As n σ ρ σ ρ)
    (kk : G X cs ss n σ ρ (pc + 3) lv st') : G X cs ss n σ ρ q lv st := by
  subst e
  subst hst
  intro hz H locs ls hW hS h
  refine w_size (fun hle => ?_)
  refine va_callv (A0 := AA (xb X)) (va_runS (As := As) (rest := st') ⟨hC.1, hC.2.1, rfl, hC.2.2.1, hC.2.2.2.1⟩ hct ⟨callb hC hY hl hlev, hC.2.2.2.1 _ hI⟩ ⟨blindP _ _ _ _ _, fun U hU hw => ⟨rfl, wu_of hC hz hW hS hle hU hw⟩⟩ rfl hn h.1 rfl (lv_room hcat) d hf) hS (fun q _ h => h) (fun q h => h) (fun u t H1 locs1 ht hvm hp hB hsz hk hk_502 => ?_)
  rw [ht] at hB
  exact kk hz H1 locs1 ls hB hk_502 h
theorem if1 : (if (1 : Int32) = 0 then (none : Option Unit) else some ()) = some () := rfl
theorem if0 : (if (0 : Int32) = 0 then (some () : Option Unit) else none) = some () := rfl
end STR
set_option maxHeartbeats 4000000 in
set_option maxRecDepth 100000 in
theorem c_J3_checkIndex_8e157 (E : EX) {n : Nat} {σ : Sto} {ρ : Rho} (a0 a1 : Int32) (v : Value) (hv : v = .null ∨ ∃ t, v = .ref t) (h1 : ¬ a0 < 0) (h2 : a0 < a1) : CTi E yJ3_checkIndex_8e157 cJ3_checkIndex_8e157 3 (some .int) 0 [.int a0, .int a1, v] n σ ρ a0 σ ρ := by
  refine ct_i (by decide +kernel) rfl (by rcases hv with rfl | ⟨t, rfl⟩ <;> exact (Nat.le_of_ble_eq_true rfl)) (fun X hE hml hC hR => ?_)
  subst hE
  have hv1 : G X 0 0 n σ ρ 0 [(0, .int a0), (1, .int a1)] [] := by
    refine g_iload_n hC dJ3_checkIndex_8e157_0 rfl 0 rfl ?_
    refine g_if_lt (tgt := 9) (β := Unit) (a := none) (b := some ()) (res := ()) hC dJ3_checkIndex_8e157_1 rfl (by decide) (by rw [if_neg h1]) (fun h => by cases h) (fun _ => ?_)
    refine g_iload_n hC dJ3_checkIndex_8e157_4 rfl 0 rfl ?_
    refine g_iload_n hC dJ3_checkIndex_8e157_5 rfl 1 rfl ?_
    refine g_icmp_lt (tgt := 16) (β := Unit) (a := some ()) (b := none) (res := ()) hC dJ3_checkIndex_8e157_6 rfl (by decide) (by rw [if_pos h2]) (fun _ => ?_) (fun h => by cases h)
    refine g_iload_n hC dJ3_checkIndex_8e157_16 rfl 0 rfl ?_
    exact g_reti hR dJ3_checkIndex_8e157_17 rfl
  rcases hv with rfl | ⟨t, rfl⟩
  · exact g_sub [0, 1] hv1 rfl
  · exact g_sub [0, 1] hv1 rfl
set_option maxHeartbeats 4000000 in
set_option maxRecDepth 100000 in
theorem c_J0_checkIndex_df160 (E : EX) {n : Nat} {σ : Sto} {ρ : Rho} (a0 a1 : Int32) (h1 : ¬ a0 < 0) (h2 : a0 < a1) : CTv E yJ0_checkIndex_df160 cJ0_checkIndex_df160 2 1 0 0 [.int a0, .int a1] n σ ρ σ ρ := by
  refine ct_v (by decide +kernel) (Nat.le_of_ble_eq_true rfl) (fun X hE hml hin hRm hC hR => ?_)
  subst hE
  show G X 0 0 n σ ρ 0 [(0, .int a0), (1, .int a1)] []
  replace hC : Cx X cJ0_checkIndex_df160 RJ0 1 := hC
  refine g_iload_n hC dJ0_checkIndex_df160_0 rfl 0 rfl ?_
  refine g_iload_n hC dJ0_checkIndex_df160_1 rfl 1 rfl ?_
  refine g_getsF hC k_507 dJ0_checkIndex_df160_2 rfl (fun v hv => ?_)
  refine g_callSi (γ := Unit) (o := some ()) (f := fun _ => some ()) (res := ()) (As := [.int a0, .int a1, v]) (st' := []) (L' := 0) (R := fun _ => a0) (S := fun _ => σ) (T := fun _ => ρ) hC Y_J3_checkIndex_8e157 k_510 k_509 ⟨by decide, by decide⟩ dJ0_checkIndex_df160_5 rfl rfl rfl (Nat.le_of_ble_eq_true rfl) ⟨Nat.zero_le _, Nat.zero_le _⟩ rfl (fun c _ => c_J3_checkIndex_8e157 (xE X) a0 a1 v hv h1 h2) (fun c _ => ?_)
  refine g_pop hC dJ0_checkIndex_df160_8 rfl rfl ?_
  exact g_retv hR dJ0_checkIndex_df160_9 rfl
/-- a literal's char -/
def sch (i : Nat) (k : Int32) : Int32 := ((((stB.getD i []).getD k.toNatClampNeg 0) &&& 255).toUInt32 % 65536).toInt32
theorem sch_char (x : Int32) : narrow .char (.int ((x &&& 255).toUInt32 % 65536).toInt32) = .int ((x &&& 255).toUInt32 % 65536).toInt32 := by
  rw [sc_c2]; exact sc_nar x
theorem sl_lt {i : Nat} {k : Int32} (h : ¬ (k < 0 ∨ stL.getD i 0 ≤ k.toNatClampNeg)) (hi : i < stN) : k < Int32.ofNat (stL.getD i 0) := by
  have hb : ∀ i, i < stN → stL.getD i 0 < 100 := by decide
  have hb1 := hb i hi
  have h1 : ¬ k < 0 := fun z => h (Or.inl z)
  obtain ⟨j, hj, rfl⟩ := nI_of h1
  have h2 : ¬ stL.getD i 0 ≤ j := fun z => h (Or.inr (by rw [nI_clamp hj]; exact z))
  exact nI_lt (by omega) (by omega)
set_option maxHeartbeats 4000000 in
set_option maxRecDepth 100000 in
theorem c_J1_charAt_3b067 {n : Nat} {σ : Sto} {ρ : Rho} (E : EX) (i : Nat) (hi : i < stN) (k : Int32) (hk : ¬ (k < 0 ∨ stL.getD i 0 ≤ k.toNatClampNeg)) : CTi E yJ1_charAt_3b067 cJ1_charAt_3b067 2 (some .char) 2 [.ref (E.2.2.2.2.2 i), .int k] n σ ρ (sch i k) σ ρ := by
  refine ct_i (by decide +kernel) rfl (Nat.le_of_ble_eq_true rfl) (fun X hE hml hC hR => ?_)
  subst hE
  show G X 0 0 n σ ρ 0 [(0, .ref (xV X i)), (1, .int k)] []
  replace hC : Cx X cJ1_charAt_3b067 RJ1 2 := hC
  refine g_iload_n hC dJ1_charAt_3b067_0 rfl 1 rfl ?_
  refine g_aload_n hC dJ1_charAt_3b067_1 rfl 0 rfl ?_
  refine g_slenV hC hi dJ1_charAt_3b067_2 rfl ?_
  refine g_callSv (As := [.int k, .int (Int32.ofNat (stL.getD i 0))]) (st' := []) (L' := 1) hC Y_J0_checkIndex_df160 k_505 k_504 ⟨by decide, by decide⟩ dJ1_charAt_3b067_3 rfl rfl rfl (Nat.le_of_ble_eq_true rfl) ⟨Nat.zero_le _, Nat.zero_le _⟩ (c_J0_checkIndex_df160 (xE X) _ _ (fun z => hk (Or.inl z)) (sl_lt hk hi)) ?_
  refine g_aload_n hC dJ1_charAt_3b067_6 rfl 0 rfl ?_
  refine g_iload_n hC dJ1_charAt_3b067_7 rfl 1 rfl ?_
  refine g_sbald hC hi hk dJ1_charAt_3b067_8 rfl ?_
  refine g_sipush (v := 255) hC dJ1_charAt_3b067_9 rfl is_255 ?_
  refine g_iand hC dJ1_charAt_3b067_12 rfl ?_
  refine g_i2c hC dJ1_charAt_3b067_13 rfl rfl ?_
  exact hR _ _ dJ1_charAt_3b067_14 (fun ty h => by cases h; exact sch_char _)
set_option maxHeartbeats 4000000 in
set_option maxRecDepth 100000 in
theorem c_J0_isLatin1_aae02 {n : Nat} {σ : Sto} {ρ : Rho} (E : EX) (i : Nat) (hi : i < stN) : CTi E yJ0_isLatin1_aae02 cJ0_isLatin1_aae02 1 (some .boolean) 0 [.ref (eK E i)] n σ ρ 1 σ ρ := by
  refine ct_i (by decide +kernel) rfl (Nat.le_of_ble_eq_true rfl) (fun X hE hml hC hR => ?_)
  subst hE
  show G X 0 0 n σ ρ 0 [(0, .ref (xK X i))] []
  replace hC : Cx X cJ0_isLatin1_aae02 RJ0 0 := hC
  refine g_getsC hC k_491 dJ0_isLatin1_aae02_0 rfl ?_
  refine g_if_eq (tgt := 17) hC dJ0_isLatin1_aae02_3 rfl (by decide) if1 (fun h => by cases h) (fun _ => ?_)
  refine g_aload_n hC dJ0_isLatin1_aae02_6 rfl 0 rfl ?_
  refine g_scod hC hi k_1535 dJ0_isLatin1_aae02_7 rfl ?_
  refine g_if_ne (tgt := 17) hC dJ0_isLatin1_aae02_10 rfl (by decide) if0 (fun h => by cases h) (fun _ => ?_)
  refine g_iconst (v := 1) hC dJ0_isLatin1_aae02_13 rfl ic_1 ?_
  refine g_goto (tgt := 18) hC dJ0_isLatin1_aae02_14 rfl (by decide) ?_
  exact hR _ _ dJ0_isLatin1_aae02_18 (fun ty h => by cases h; rfl)
set_option maxHeartbeats 4000000 in
set_option maxRecDepth 100000 in
theorem c_J0_coder_7d493 {n : Nat} {σ : Sto} {ρ : Rho} (E : EX) (i : Nat) (hi : i < stN) : CTi E yJ0_coder_7d493 cJ0_coder_7d493 1 (some .byte) 0 [.ref (eK E i)] n σ ρ 0 σ ρ := by
  refine ct_i (by decide +kernel) rfl (Nat.le_of_ble_eq_true rfl) (fun X hE hml hC hR => ?_)
  subst hE
  show G X 0 0 n σ ρ 0 [(0, .ref (xK X i))] []
  replace hC : Cx X cJ0_coder_7d493 RJ0 0 := hC
  refine g_getsC hC k_491 dJ0_coder_7d493_0 rfl ?_
  refine g_if_eq (tgt := 13) hC dJ0_coder_7d493_3 rfl (by decide) if1 (fun h => by cases h) (fun _ => ?_)
  refine g_aload_n hC dJ0_coder_7d493_6 rfl 0 rfl ?_
  refine g_scod hC hi k_1535 dJ0_coder_7d493_7 rfl ?_
  refine g_goto (tgt := 14) hC dJ0_coder_7d493_10 rfl (by decide) ?_
  exact hR _ _ dJ0_coder_7d493_14 (fun ty h => by cases h; rfl)
def MJ0_length_8abf5 (i : Nat) : Option Int32 := some (Int32.ofNat (stL.getD i 0) >>> ((0 : Int32) &&& 31))
set_option maxHeartbeats 4000000 in
set_option maxRecDepth 100000 in
theorem c_J0_length_8abf5 (E : EX) {n : Nat} {σ : Sto} {ρ : Rho} (i : Nat) (hi : i < stN) (c : Int32) (hc : MJ0_length_8abf5 i = some c) : CTi E yJ0_length_8abf5 cJ0_length_8abf5 1 (some .int) 1 [.ref (eK E i)] n σ ρ c σ ρ := by
  unfold MJ0_length_8abf5 at hc
  obtain rfl := Option.some.inj hc
  refine ct_i (by decide +kernel) rfl (Nat.le_of_ble_eq_true rfl) (fun X hE hml hC hR => ?_)
  subst hE
  show G X 0 0 n σ ρ 0 [(0, .ref (xK X i))] []
  replace hC : Cx X cJ0_length_8abf5 RJ0 1 := hC
  refine g_aload_n hC dJ0_length_8abf5_0 rfl 0 rfl ?_
  refine g_sval hC hi k_1534 dJ0_length_8abf5_1 rfl ?_
  refine g_slenV hC hi dJ0_length_8abf5_4 rfl ?_
  refine g_aload_n hC dJ0_length_8abf5_5 rfl 0 rfl ?_
  refine g_callStr (γ := Unit) (o := some ()) (f := fun _ => some ()) (res := ()) (R := fun _ => 0) (S := fun _ => σ) (T := fun _ => ρ) (i := i) (As := []) (st' := [.int (Int32.ofNat (stL.getD i 0))]) (L' := 0) hC Y_J0_coder_7d493 I_J0_coder_7d493 k_487 ⟨by decide, by decide⟩ rfl hi dJ0_length_8abf5_6 rfl rfl rfl (Nat.le_of_ble_eq_true rfl) ⟨Nat.zero_le _, Nat.zero_le _⟩ rfl (fun c _ => c_J0_coder_7d493 (xE X) i hi) (fun c _ => ?_)
  refine g_ishr hC dJ0_length_8abf5_9 rfl ?_
  exact g_reti hR dJ0_length_8abf5_10 rfl
def MJ0_charAt_5068e (i : Nat) (k : Int32) : Option Int32 := if k < 0 ∨ stL.getD i 0 ≤ k.toNatClampNeg then none else some (sch i k)
set_option maxHeartbeats 4000000 in
set_option maxRecDepth 100000 in
theorem c_J0_charAt_5068e (E : EX) {n : Nat} {σ : Sto} {ρ : Rho} (i : Nat) (hi : i < stN) (k : Int32) (c : Int32) (hc : MJ0_charAt_5068e i k = some c) : CTi E yJ0_charAt_5068e cJ0_charAt_5068e 2 (some .char) 3 [.ref (eK E i), .int k] n σ ρ c σ ρ := by
  unfold MJ0_charAt_5068e at hc
  by_cases hk : k < 0 ∨ stL.getD i 0 ≤ k.toNatClampNeg
  · rw [if_pos hk] at hc; cases hc
  rw [if_neg hk] at hc
  obtain rfl := Option.some.inj hc
  refine ct_i (by decide +kernel) rfl (Nat.le_of_ble_eq_true rfl) (fun X hE hml hC hR => ?_)
  subst hE
  show G X 0 0 n σ ρ 0 [(0, .ref (xK X i)), (1, .int k)] []
  replace hC : Cx X cJ0_charAt_5068e RJ0 3 := hC
  refine g_aload_n hC dJ0_charAt_5068e_0 rfl 0 rfl ?_
  refine g_callStr (γ := Unit) (o := some ()) (f := fun _ => some ()) (res := ()) (R := fun _ => 1) (S := fun _ => σ) (T := fun _ => ρ) (i := i) (As := []) (st' := []) (L' := 0) hC Y_J0_isLatin1_aae02 I_J0_isLatin1_aae02 k_497 ⟨by decide, by decide⟩ rfl hi dJ0_charAt_5068e_1 rfl rfl rfl (Nat.le_of_ble_eq_true rfl) ⟨Nat.zero_le _, Nat.zero_le _⟩ rfl (fun c _ => c_J0_isLatin1_aae02 (xE X) i hi) (fun c _ => ?_)
  refine g_if_eq (tgt := 16) hC dJ0_charAt_5068e_4 rfl (by decide) if1 (fun h => by cases h) (fun _ => ?_)
  refine g_aload_n hC dJ0_charAt_5068e_7 rfl 0 rfl ?_
  refine g_sval hC hi k_1534 dJ0_charAt_5068e_8 rfl ?_
  refine g_iload_n hC dJ0_charAt_5068e_11 rfl 1 rfl ?_
  refine g_callSi (γ := Unit) (o := some ()) (f := fun _ => some ()) (res := ()) (R := fun _ => sch i k) (S := fun _ => σ) (T := fun _ => ρ) (As := [.ref (xV X i), .int k]) (st' := []) (L' := 2) hC Y_J1_charAt_3b067 k_502 k_501 ⟨by decide, by decide⟩ dJ0_charAt_5068e_12 rfl rfl rfl (Nat.le_of_ble_eq_true rfl) ⟨Nat.zero_le _, Nat.zero_le _⟩ rfl (fun c _ => c_J1_charAt_3b067 (xE X) i hi k hk) (fun c _ => ?_)
  exact hR _ _ dJ0_charAt_5068e_15 (fun ty h => by cases h; exact sch_char _)

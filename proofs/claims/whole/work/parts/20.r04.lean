def MX12_isConic (a0 : Int32) : Option (Int32) :=
  Option.bind (MX12_isIn a0 ((0 : Int32)) ((5 : Int32))) fun c1 =>
  zr c1 (some c1)
set_option maxHeartbeats 4000000 in
set_option maxRecDepth 100000 in
theorem c_X12_isConic (E : EX) {n : Nat} {σ : Sto} {ρ : Rho} (a0 : Int32) (res : Int32) (hM : MX12_isConic a0 = some res) : CTi E yX12_isConic cX12_isConic 1 (some .boolean) 1 [.int a0] n σ ρ res σ ρ := by
  refine ct_i (by decide +kernel) rfl (Nat.le_of_ble_eq_true rfl) (fun X hE hml hC hR => ?_)
  subst hE
  show G X 0 0 n σ ρ 0 [(0, .int a0)] []
  replace hC : Cx X cX12_isConic RX12 1 := hC
  unfold MX12_isConic at hM
  refine g_iload_n hC dX12_isConic_0 rfl 0 rfl ?_
  refine g_iconst (v := 0) hC dX12_isConic_1 rfl ic_0 ?_
  refine g_iconst (v := 5) hC dX12_isConic_2 rfl ic_5 ?_
  refine g_callSi (As := [.int a0, .int ((0 : Int32)), .int ((5 : Int32))]) (st' := []) (L' := 0) hC Y_X12_isIn k_1170 k_1169 ⟨by decide, by decide⟩ dX12_isConic_3 rfl rfl rfl (Nat.le_of_ble_eq_true rfl) ⟨Nat.zero_le _, Nat.zero_le _⟩ hM (fun c hc => c_X12_isIn (xE X) a0 ((0 : Int32)) ((5 : Int32)) c hc) (fun c1 hM => ?_)
  exact g_retz hM dX12_isConic_6 rfl (fun h => by cases h; exact hR)
def MX12_isShort (a0 : Int32) : Option (Int32) :=
  Option.bind (MX12_isIn a0 ((-99 : Int32)) ((99 : Int32))) fun c1 =>
  zr c1 (some c1)
set_option maxHeartbeats 4000000 in
set_option maxRecDepth 100000 in
theorem c_X12_isShort (E : EX) {n : Nat} {σ : Sto} {ρ : Rho} (a0 : Int32) (res : Int32) (hM : MX12_isShort a0 = some res) : CTi E yX12_isShort cX12_isShort 1 (some .boolean) 1 [.int a0] n σ ρ res σ ρ := by
  refine ct_i (by decide +kernel) rfl (Nat.le_of_ble_eq_true rfl) (fun X hE hml hC hR => ?_)
  subst hE
  show G X 0 0 n σ ρ 0 [(0, .int a0)] []
  replace hC : Cx X cX12_isShort RX12 1 := hC
  unfold MX12_isShort at hM
  refine g_iload_n hC dX12_isShort_0 rfl 0 rfl ?_
  refine g_bipush (v := -99) hC dX12_isShort_1 rfl ib_m99 ?_
  refine g_bipush (v := 99) hC dX12_isShort_3 rfl ib_99 ?_
  refine g_callSi (As := [.int a0, .int ((-99 : Int32)), .int ((99 : Int32))]) (st' := []) (L' := 0) hC Y_X12_isIn k_1170 k_1169 ⟨by decide, by decide⟩ dX12_isShort_5 rfl rfl rfl (Nat.le_of_ble_eq_true rfl) ⟨Nat.zero_le _, Nat.zero_le _⟩ hM (fun c hc => c_X12_isIn (xE X) a0 ((-99 : Int32)) ((99 : Int32)) c hc) (fun c1 hM => ?_)
  exact g_retz hM dX12_isShort_8 rfl (fun h => by cases h; exact hR)
def BX12_whyNot_28 (σ : Sto) (ρ : Rho) (a0 : Nat) (rec : Int32 → Int32 → Option (Int32)) (k35 : Int32 → Option (Int32)) (v2 : Int32) (t0 : Int32) : Option (Int32) :=
  bn t0 fun y1 =>
  bn (v2 + (1 : Int32)) fun y2 =>
  rec y1 y2
set_option maxHeartbeats 4000000 in
set_option maxRecDepth 100000 in
theorem bX12_whyNot_28 {X : CX} {n : Nat} {σ : Sto} {ρ : Rho} {res : Int32} (hC : Cx X cX12_whyNot RX12 2) (hml : (xc X).maxLocals = 3) (hR : RtT (some .int) X cX12_whyNot n res σ ρ) (a0 : Nat) (h0 : Sh n a0 11) (rec : Int32 → Int32 → Option (Int32)) (ih : ∀ (v1 : Int32) (v2 : Int32), rec v1 v2 = some res → G X 0 0 n σ ρ 4 [(0, vr X a0), (1, .int v1), (2, .int v2)] []) (k35 : Int32 → Option (Int32)) (hk35 : ∀ (v1 : Int32), k35 v1 = some res → G X 0 0 n σ ρ 35 [(0, vr X a0), (1, .int v1)] []) : ∀ (v2 : Int32) (t0 : Int32), BX12_whyNot_28 σ ρ a0 rec k35 v2 t0 = some res → G X 0 0 n σ ρ 28 [(0, vr X a0), (2, .int v2)] [.int t0] := by
  intro v2 t0 hM
  unfold BX12_whyNot_28 at hM
  refine g_istore_n hC (fun y1 => [(1, .int y1), (0, vr X a0), (2, .int v2)]) dX12_whyNot_28 rfl hM hml (by decide) (fun _ => rfl) (fun y1 hM => ?_)
  refine g_iinc (v := 1) hC (fun y2 => [(2, .int y2), (1, .int y1), (0, vr X a0)]) dX12_whyNot_29 rfl hM (j := 2) rfl ic_1 hml (by decide) (fun _ => rfl) (fun y2 hM => ?_)
  refine g_goto (tgt := 4) hC dX12_whyNot_32 rfl (by decide) ?_
  exact g_sub [2, 1, 0] (ih _ _ hM) rfl
def BX12_whyNot_23 (σ : Sto) (ρ : Rho) (a0 : Nat) (rec : Int32 → Int32 → Option (Int32)) (k35 : Int32 → Option (Int32)) (v2 : Int32) : Option (Int32) :=
  BX12_whyNot_28 σ ρ a0 rec k35 v2 ((1 : Int32))
set_option maxHeartbeats 4000000 in
set_option maxRecDepth 100000 in
theorem bX12_whyNot_23 {X : CX} {n : Nat} {σ : Sto} {ρ : Rho} {res : Int32} (hC : Cx X cX12_whyNot RX12 2) (hml : (xc X).maxLocals = 3) (hR : RtT (some .int) X cX12_whyNot n res σ ρ) (a0 : Nat) (h0 : Sh n a0 11) (rec : Int32 → Int32 → Option (Int32)) (ih : ∀ (v1 : Int32) (v2 : Int32), rec v1 v2 = some res → G X 0 0 n σ ρ 4 [(0, vr X a0), (1, .int v1), (2, .int v2)] []) (k35 : Int32 → Option (Int32)) (hk35 : ∀ (v1 : Int32), k35 v1 = some res → G X 0 0 n σ ρ 35 [(0, vr X a0), (1, .int v1)] []) : ∀ (v2 : Int32), BX12_whyNot_23 σ ρ a0 rec k35 v2 = some res → G X 0 0 n σ ρ 23 [(0, vr X a0), (2, .int v2)] [] := by
  intro v2 hM
  unfold BX12_whyNot_23 at hM
  refine g_iconst (v := 1) hC dX12_whyNot_23 rfl ic_1 ?_
  refine g_goto (tgt := 28) hC dX12_whyNot_24 rfl (by decide) ?_
  exact g_sub [0, 1] ((bX12_whyNot_28 hC hml hR a0 h0 rec ih k35 hk35) _ _ hM) rfl
def FX12_whyNot_43 (σ : Sto) (ρ : Rho) (a0 : Nat) (rec : Int32 → Option (Int32)) (v2 : Int32) : Option (Int32) :=
  if (6 : Int32) ≤ v2 then
    some (0 : Int32)
  else
    Option.bind (ρ a0 13) fun j1 =>
    Option.bind (ag σ j1 v2) fun x2 =>
    Option.bind (MX12_isShort x2) fun c3 =>
    if c3 = 0 then
      some (4 : Int32)
    else
      bn (v2 + (1 : Int32)) fun y4 =>
      rec y4
set_option maxHeartbeats 4000000 in
set_option maxRecDepth 100000 in
theorem bX12_whyNot_43 {X : CX} {n : Nat} {σ : Sto} {ρ : Rho} {res : Int32} (hC : Cx X cX12_whyNot RX12 2) (hml : (xc X).maxLocals = 3) (hR : RtT (some .int) X cX12_whyNot n res σ ρ) (a0 : Nat) (h0 : Sh n a0 11) (fu : Nat) : ∀ (v2 : Int32), fixN (fun _ => none) (FX12_whyNot_43 σ ρ a0) fu v2 = some res → G X 0 0 n σ ρ 43 [(0, vr X a0), (2, .int v2)] [] := by
  refine fixN_ind (P := fun (f : Int32 → Option (Int32)) => ∀ (v2 : Int32), f v2 = some res → G X 0 0 n σ ρ 43 [(0, vr X a0), (2, .int v2)] []) ?_ ?_ fu
  · intro v2 hM; cases hM
  · intro rec ih v2 hM
    unfold FX12_whyNot_43 at hM
    refine g_iload_n hC dX12_whyNot_43 rfl 1 rfl ?_
    refine g_bipush (v := 6) hC dX12_whyNot_44 rfl ib_6 ?_
    refine g_icmp_ge (tgt := 69) hC dX12_whyNot_46 rfl (by decide) hM (fun hM => ?_) (fun hM => ?_)
    · refine g_iconst (v := 0) hC dX12_whyNot_69 rfl ic_0 ?_
      cases hM
      exact g_reti hR dX12_whyNot_70 rfl
    · refine g_aload_n hC dX12_whyNot_49 rfl 0 rfl ?_
      refine fg_11_13 hC h0 k_1095 dX12_whyNot_50 rfl hM (fun j1 hj1 hM => ?_)
      refine g_iload_n hC dX12_whyNot_53 rfl 1 rfl ?_
      refine g_iald hC hj1 dX12_whyNot_54 rfl hM (fun x2 hM => ?_)
      refine g_callSi (As := [.int x2]) (st' := []) (L' := 1) hC Y_X12_isShort k_1173 k_1172 ⟨by decide, by decide⟩ dX12_whyNot_55 rfl rfl rfl (Nat.le_of_ble_eq_true rfl) ⟨Nat.zero_le _, Nat.zero_le _⟩ hM (fun c hc => c_X12_isShort (xE X) x2 c hc) (fun c3 hM => ?_)
      refine g_if_ne (tgt := 63) hC dX12_whyNot_58 rfl (by decide) hM (fun hM => ?_) (fun hM => ?_)
      · refine g_iinc (v := 1) hC (fun y4 => [(2, .int y4), (0, vr X a0)]) dX12_whyNot_63 rfl hM (j := 1) rfl ic_1 hml (by decide) (fun _ => rfl) (fun y4 hM => ?_)
        refine g_goto (tgt := 43) hC dX12_whyNot_66 rfl (by decide) ?_
        exact g_sub [1, 0] (ih _ hM) rfl
      · refine g_iconst (v := 4) hC dX12_whyNot_61 rfl ic_4 ?_
        cases hM
        exact g_reti hR dX12_whyNot_62 rfl
def BX12_whyNot_35 (σ : Sto) (ρ : Rho) (a0 : Nat) (v1 : Int32) : Option (Int32) :=
  if v1 = 0 then
    some (3 : Int32)
  else
    bn ((0 : Int32)) fun y1 =>
    fixN (fun _ => none) (FX12_whyNot_43 σ ρ a0) FU y1
set_option maxHeartbeats 4000000 in
set_option maxRecDepth 100000 in
theorem bX12_whyNot_35 {X : CX} {n : Nat} {σ : Sto} {ρ : Rho} {res : Int32} (hC : Cx X cX12_whyNot RX12 2) (hml : (xc X).maxLocals = 3) (hR : RtT (some .int) X cX12_whyNot n res σ ρ) (a0 : Nat) (h0 : Sh n a0 11) : ∀ (v1 : Int32), BX12_whyNot_35 σ ρ a0 v1 = some res → G X 0 0 n σ ρ 35 [(0, vr X a0), (1, .int v1)] [] := by
  intro v1 hM
  unfold BX12_whyNot_35 at hM
  refine g_iload_n hC dX12_whyNot_35 rfl 1 rfl ?_
  refine g_if_ne (tgt := 41) hC dX12_whyNot_36 rfl (by decide) hM (fun hM => ?_) (fun hM => ?_)
  · refine g_iconst (v := 0) hC dX12_whyNot_41 rfl ic_0 ?_
    refine g_istore_n hC (fun y1 => [(2, .int y1), (0, vr X a0), (1, .int v1)]) dX12_whyNot_42 rfl hM hml (by decide) (fun _ => rfl) (fun y1 hM => ?_)
    exact g_sub [1, 0] ((bX12_whyNot_43 hC hml hR a0 h0  FU) _ hM) rfl
  · refine g_iconst (v := 3) hC dX12_whyNot_39 rfl ic_3 ?_
    cases hM
    exact g_reti hR dX12_whyNot_40 rfl
def FX12_whyNot_4 (σ : Sto) (ρ : Rho) (a0 : Nat) (k35 : Int32 → Option (Int32)) (rec : Int32 → Int32 → Option (Int32)) (v1 : Int32) (v2 : Int32) : Option (Int32) :=
  if (6 : Int32) ≤ v2 then
    k35 v1
  else
    if v1 = 0 then
      Option.bind (ρ a0 13) fun j1 =>
      Option.bind (ag σ j1 v2) fun x2 =>
      if x2 = 0 then
        BX12_whyNot_28 σ ρ a0 rec k35 v2 ((0 : Int32))
      else
        BX12_whyNot_23 σ ρ a0 rec k35 v2
    else
      BX12_whyNot_23 σ ρ a0 rec k35 v2
set_option maxHeartbeats 4000000 in
set_option maxRecDepth 100000 in
theorem bX12_whyNot_4 {X : CX} {n : Nat} {σ : Sto} {ρ : Rho} {res : Int32} (hC : Cx X cX12_whyNot RX12 2) (hml : (xc X).maxLocals = 3) (hR : RtT (some .int) X cX12_whyNot n res σ ρ) (a0 : Nat) (h0 : Sh n a0 11) (k35 : Int32 → Option (Int32)) (hk35 : ∀ (v1 : Int32), k35 v1 = some res → G X 0 0 n σ ρ 35 [(0, vr X a0), (1, .int v1)] []) (fu : Nat) : ∀ (v1 : Int32) (v2 : Int32), fixN (fun _ _ => none) (FX12_whyNot_4 σ ρ a0 k35) fu v1 v2 = some res → G X 0 0 n σ ρ 4 [(0, vr X a0), (1, .int v1), (2, .int v2)] [] := by
  refine fixN_ind (P := fun (f : Int32 → Int32 → Option (Int32)) => ∀ (v1 : Int32) (v2 : Int32), f v1 v2 = some res → G X 0 0 n σ ρ 4 [(0, vr X a0), (1, .int v1), (2, .int v2)] []) ?_ ?_ fu
  · intro v1 v2 hM; cases hM
  · intro rec ih v1 v2 hM
    unfold FX12_whyNot_4 at hM
    refine g_iload_n hC dX12_whyNot_4 rfl 2 rfl ?_
    refine g_bipush (v := 6) hC dX12_whyNot_5 rfl ib_6 ?_
    refine g_icmp_ge (tgt := 35) hC dX12_whyNot_7 rfl (by decide) hM (fun hM => ?_) (fun hM => ?_)
    · exact g_sub [0, 1] (hk35 _ hM) rfl
    · refine g_iload_n hC dX12_whyNot_10 rfl 1 rfl ?_
      refine g_if_ne (tgt := 23) hC dX12_whyNot_11 rfl (by decide) hM (fun hM => ?_) (fun hM => ?_)
      · exact g_sub [0, 2] ((bX12_whyNot_23 hC hml hR a0 h0 rec ih k35 hk35) _ hM) rfl
      · refine g_aload_n hC dX12_whyNot_14 rfl 0 rfl ?_
        refine fg_11_13 hC h0 k_1095 dX12_whyNot_15 rfl hM (fun j1 hj1 hM => ?_)
        refine g_iload_n hC dX12_whyNot_18 rfl 2 rfl ?_
        refine g_iald hC hj1 dX12_whyNot_19 rfl hM (fun x2 hM => ?_)
        refine g_if_eq (tgt := 27) hC dX12_whyNot_20 rfl (by decide) hM (fun hM => ?_) (fun hM => ?_)
        · refine g_iconst (v := 0) hC dX12_whyNot_27 rfl ic_0 ?_
          exact g_sub [0, 2] ((bX12_whyNot_28 hC hml hR a0 h0 rec ih k35 hk35) _ _ hM) rfl
        · exact g_sub [0, 2] ((bX12_whyNot_23 hC hml hR a0 h0 rec ih k35 hk35) _ hM) rfl
def MX12_whyNot (σ : Sto) (ρ : Rho) (a0 : Nat) : Option (Int32) :=
  bn ((0 : Int32)) fun y1 =>
  bn ((0 : Int32)) fun y2 =>
  fixN (fun _ _ => none) (FX12_whyNot_4 σ ρ a0 (BX12_whyNot_35 σ ρ a0)) FU y1 y2
set_option maxHeartbeats 4000000 in
set_option maxRecDepth 100000 in
theorem c_X12_whyNot (E : EX) {n : Nat} {σ : Sto} {ρ : Rho} (a0 : Nat) (h0 : Sh n a0 11) (res : Int32) (hM : MX12_whyNot σ ρ a0 = some res) : CTi E yX12_whyNot cX12_whyNot 3 (some .int) 2 [.ref (eb E + a0)] n σ ρ res σ ρ := by
  refine ct_i (by decide +kernel) rfl (Nat.le_of_ble_eq_true rfl) (fun X hE hml hC hR => ?_)
  subst hE
  show G X 0 0 n σ ρ 0 [(0, vr X a0)] []
  replace hC : Cx X cX12_whyNot RX12 2 := hC
  unfold MX12_whyNot at hM
  refine g_iconst (v := 0) hC dX12_whyNot_0 rfl ic_0 ?_
  refine g_istore_n hC (fun y1 => [(1, .int y1), (0, vr X a0)]) dX12_whyNot_1 rfl hM hml (by decide) (fun _ => rfl) (fun y1 hM => ?_)
  refine g_iconst (v := 0) hC dX12_whyNot_2 rfl ic_0 ?_
  refine g_istore_n hC (fun y2 => [(2, .int y2), (1, .int y1), (0, vr X a0)]) dX12_whyNot_3 rfl hM hml (by decide) (fun _ => rfl) (fun y2 hM => ?_)
  exact g_sub [2, 1, 0] ((bX12_whyNot_4 hC hml hR a0 h0 (BX12_whyNot_35 σ ρ a0) (bX12_whyNot_35 hC hml hR a0 h0 ) FU) _ _ hM) rfl
def FX12_takesIts_2 (ρ : Rho) (a0 : Nat) (a1 : Int32) (a2 : Int32) (rec : Sto → Int32 → Option (Sto)) (σ : Sto) (v3 : Int32) : Option (Sto) :=
  if (6 : Int32) ≤ v3 then
    some σ
  else
    Option.bind (ρ a0 0) fun j1 =>
    Option.bind (ρ a0 13) fun j2 =>
    Option.bind (ag σ j2 v3) fun x3 =>
    Option.bind (ap σ j1 (((a1 + ((6 : Int32) * a2)) + v3)) x3) fun σ4 =>
    bn (v3 + (1 : Int32)) fun y5 =>
    rec σ4 y5
set_option maxHeartbeats 4000000 in
set_option maxRecDepth 100000 in
theorem bX12_takesIts_2 {X : CX} {n : Nat} {ρ : Rho} {res : Sto} (hC : Cx X cX12_takesIts RX12 0) (hml : (xc X).maxLocals = 4) (hR : RtV X cX12_takesIts 0 0 n res ρ) (a0 : Nat) (a1 : Int32) (a2 : Int32) (h0 : Sh n a0 11) (fu : Nat) : ∀ (σ : Sto) (v3 : Int32), fixN (fun _ _ => none) (FX12_takesIts_2 ρ a0 a1 a2) fu σ v3 = some res → G X 0 0 n σ ρ 2 [(0, vr X a0), (1, .int a1), (2, .int a2), (3, .int v3)] [] := by
  refine fixN_ind (P := fun (f : Sto → Int32 → Option (Sto)) => ∀ (σ : Sto) (v3 : Int32), f σ v3 = some res → G X 0 0 n σ ρ 2 [(0, vr X a0), (1, .int a1), (2, .int a2), (3, .int v3)] []) ?_ ?_ fu
  · intro σ v3 hM; cases hM
  · intro rec ih σ v3 hM
    unfold FX12_takesIts_2 at hM
    refine g_iload_n hC dX12_takesIts_2 rfl 3 rfl ?_
    refine g_bipush (v := 6) hC dX12_takesIts_3 rfl ib_6 ?_
    refine g_icmp_ge (tgt := 33) hC dX12_takesIts_5 rfl (by decide) hM (fun hM => ?_) (fun hM => ?_)
    · cases hM
      exact g_retv hR dX12_takesIts_33 rfl
    · refine g_aload_n hC dX12_takesIts_8 rfl 0 rfl ?_
      refine fg_11_0 hC h0 k_1082 dX12_takesIts_9 rfl hM (fun j1 hj1 hM => ?_)
      refine g_iload_n hC dX12_takesIts_12 rfl 1 rfl ?_
      refine g_bipush (v := 6) hC dX12_takesIts_13 rfl ib_6 ?_
      refine g_iload_n hC dX12_takesIts_15 rfl 2 rfl ?_
      refine g_imul hC dX12_takesIts_16 rfl ?_
      refine g_iadd hC dX12_takesIts_17 rfl ?_
      refine g_iload_n hC dX12_takesIts_18 rfl 3 rfl ?_
      refine g_iadd hC dX12_takesIts_19 rfl ?_
      refine g_aload_n hC dX12_takesIts_20 rfl 0 rfl ?_
      refine fg_11_13 hC h0 k_1095 dX12_takesIts_21 rfl hM (fun j2 hj2 hM => ?_)
      refine g_iload_n hC dX12_takesIts_24 rfl 3 rfl ?_
      refine g_iald hC hj2 dX12_takesIts_25 rfl hM (fun x3 hM => ?_)
      refine g_iast hC hj1 dX12_takesIts_26 rfl hM (fun σ4 hM => ?_)
      refine g_iinc (v := 1) hC (fun y5 => [(3, .int y5), (0, vr X a0), (1, .int a1), (2, .int a2)]) dX12_takesIts_27 rfl hM (j := 3) rfl ic_1 hml (by decide) (fun _ => rfl) (fun y5 hM => ?_)
      refine g_goto (tgt := 2) hC dX12_takesIts_30 rfl (by decide) ?_
      exact g_sub [1, 2, 3, 0] (ih _ _ hM) rfl
def MX12_takesIts (σ : Sto) (ρ : Rho) (a0 : Nat) (a1 : Int32) (a2 : Int32) : Option (Sto) :=
  bn ((0 : Int32)) fun y1 =>
  fixN (fun _ _ => none) (FX12_takesIts_2 ρ a0 a1 a2) FU σ y1
set_option maxHeartbeats 4000000 in
set_option maxRecDepth 100000 in
theorem c_X12_takesIts (E : EX) {n : Nat} {σ : Sto} {ρ : Rho} (a0 : Nat) (h0 : Sh n a0 11) (a1 : Int32) (a2 : Int32) (res : Sto) (hM : MX12_takesIts σ ρ a0 a1 a2 = some res) : CTv E yX12_takesIts cX12_takesIts 4 0 0 0 [.ref (eb E + a0), .int a1, .int a2] n σ ρ res ρ := by
  refine ct_v (by decide +kernel) (Nat.le_of_ble_eq_true rfl) (fun X hE hml hin hRm hC hR => ?_)
  subst hE
  show G X 0 0 n σ ρ 0 [(0, vr X a0), (1, .int a1), (2, .int a2)] []
  replace hC : Cx X cX12_takesIts RX12 0 := hC
  unfold MX12_takesIts at hM
  refine g_iconst (v := 0) hC dX12_takesIts_0 rfl ic_0 ?_
  refine g_istore_n hC (fun y1 => [(3, .int y1), (0, vr X a0), (1, .int a1), (2, .int a2)]) dX12_takesIts_1 rfl hM hml (by decide) (fun _ => rfl) (fun y1 hM => ?_)
  exact g_sub [1, 2, 3, 0] ((bX12_takesIts_2 hC hml hR a0 a1 a2 h0  FU) _ _ hM) rfl
def MX12_becomes (σ : Sto) (ρ : Rho) (a0 : Nat) (a1 : Int32) : Option (Int32 × Sto) :=
  Option.bind (MX12_whyNot σ ρ a0) fun c1 =>
  bn c1 fun y2 =>
  if y2 ≤ 0 then
    Option.bind (MX12_keeps σ ρ a0) fun c3 =>
    Option.bind (MX12_takesIts c3 ρ a0 ((0 : Int32)) a1) fun c4 =>
    Option.bind (MX12_refused c4 ρ a0 ((0 : Int32)) ((0 : Int32))) fun c5 =>
    some (c5.1, c5.2)
  else
    Option.bind (MX12_refused σ ρ a0 y2 ((0 : Int32))) fun c6 =>
    some (c6.1, c6.2)
set_option maxHeartbeats 4000000 in
set_option maxRecDepth 100000 in
theorem c_X12_becomes (E : EX) {n : Nat} {σ : Sto} {ρ : Rho} (a0 : Nat) (h0 : Sh n a0 11) (a1 : Int32) (res : Int32 × Sto) (hM : MX12_becomes σ ρ a0 a1 = some res) : CTi E yX12_becomes cX12_becomes 3 (some .int) 3 [.ref (eb E + a0), .int a1] n σ ρ res.1 res.2 ρ := by
  refine ct_i (by decide +kernel) rfl (Nat.le_of_ble_eq_true rfl) (fun X hE hml hC hR => ?_)
  subst hE
  show G X 0 0 n σ ρ 0 [(0, vr X a0), (1, .int a1)] []
  replace hC : Cx X cX12_becomes RX12 3 := hC
  unfold MX12_becomes at hM
  refine g_aload_n hC dX12_becomes_0 rfl 0 rfl ?_
  refine g_callVi (As := []) (st' := []) (k := a0) (L' := 2) hC Y_X12_whyNot I_X12_whyNot k_1183 ⟨by decide, by decide⟩ h0 (ci := 11) (by decide) rfl dX12_becomes_1 rfl rfl rfl (Nat.le_of_ble_eq_true rfl) ⟨Nat.zero_le _, Nat.zero_le _⟩ hM (fun c hc => c_X12_whyNot (xE X) a0 h0 c hc) (fun c1 hM => ?_)
  refine g_istore_n hC (fun y2 => [(2, .int y2), (0, vr X a0), (1, .int a1)]) dX12_becomes_4 rfl hM hml (by decide) (fun _ => rfl) (fun y2 hM => ?_)
  refine g_iload_n hC dX12_becomes_5 rfl 0 rfl ?_
  refine g_if_le (tgt := 16) hC dX12_becomes_6 rfl (by decide) hM (fun hM => ?_) (fun hM => ?_)
  · refine g_aload_n hC dX12_becomes_16 rfl 1 rfl ?_
    refine g_callVv0 (As := []) (st' := []) (k := a0) (L' := 1) hC Y_X12_keeps I_X12_keeps k_1154 ⟨by decide, by decide⟩ h0 (ci := 11) (by decide) rfl dX12_becomes_17 rfl rfl rfl (Nat.le_of_ble_eq_true rfl) ⟨Nat.zero_le _, Nat.zero_le _⟩ hM (fun c hc => c_X12_keeps (xE X) a0 h0 c hc) (fun c3 hM => ?_)
    refine g_aload_n hC dX12_becomes_20 rfl 1 rfl ?_
    refine g_iconst (v := 0) hC dX12_becomes_21 rfl ic_0 ?_
    refine g_iload_n hC dX12_becomes_22 rfl 2 rfl ?_
    refine g_callVv0 (As := [.int ((0 : Int32)), .int a1]) (st' := []) (k := a0) (L' := 0) hC Y_X12_takesIts I_X12_takesIts k_1187 ⟨by decide, by decide⟩ h0 (ci := 11) (by decide) rfl dX12_becomes_23 rfl rfl rfl (Nat.le_of_ble_eq_true rfl) ⟨Nat.zero_le _, Nat.zero_le _⟩ hM (fun c hc => c_X12_takesIts (xE X) a0 h0 ((0 : Int32)) a1 c hc) (fun c4 hM => ?_)
    refine g_aload_n hC dX12_becomes_26 rfl 1 rfl ?_
    refine g_iconst (v := 0) hC dX12_becomes_27 rfl ic_0 ?_
    refine g_iconst (v := 0) hC dX12_becomes_28 rfl ic_0 ?_
    refine g_callVi (As := [.int ((0 : Int32)), .int ((0 : Int32))]) (st' := []) (k := a0) (L' := 0) hC Y_X12_refused I_X12_refused k_1150 ⟨by decide, by decide⟩ h0 (ci := 11) (by decide) rfl dX12_becomes_29 rfl rfl rfl (Nat.le_of_ble_eq_true rfl) ⟨Nat.zero_le _, Nat.zero_le _⟩ hM (fun c hc => c_X12_refused (xE X) a0 h0 ((0 : Int32)) ((0 : Int32)) c hc) (fun c5 hM => ?_)
    cases hM
    exact g_reti hR dX12_becomes_32 rfl
  · refine g_aload_n hC dX12_becomes_9 rfl 1 rfl ?_
    refine g_iload_n hC dX12_becomes_10 rfl 0 rfl ?_
    refine g_iconst (v := 0) hC dX12_becomes_11 rfl ic_0 ?_
    refine g_callVi (As := [.int y2, .int ((0 : Int32))]) (st' := []) (k := a0) (L' := 0) hC Y_X12_refused I_X12_refused k_1150 ⟨by decide, by decide⟩ h0 (ci := 11) (by decide) rfl dX12_becomes_12 rfl rfl rfl (Nat.le_of_ble_eq_true rfl) ⟨Nat.zero_le _, Nat.zero_le _⟩ hM (fun c hc => c_X12_refused (xE X) a0 h0 y2 ((0 : Int32)) c hc) (fun c6 hM => ?_)
    cases hM
    exact g_reti hR dX12_becomes_15 rfl
def FX12_laysIts_2 (ρ : Rho) (a0 : Nat) (a1 : Int32) (rec : Sto → Int32 → Option (Sto)) (σ : Sto) (v2 : Int32) : Option (Sto) :=
  if (6 : Int32) ≤ v2 then
    some σ
  else
    Option.bind (ρ a0 13) fun j1 =>
    Option.bind (ρ a0 0) fun j2 =>
    Option.bind (ag σ j2 ((((6 : Int32) * a1) + v2))) fun x3 =>
    Option.bind (ap σ j1 v2 x3) fun σ4 =>
    bn (v2 + (1 : Int32)) fun y5 =>
    rec σ4 y5
set_option maxHeartbeats 4000000 in
set_option maxRecDepth 100000 in
theorem bX12_laysIts_2 {X : CX} {n : Nat} {ρ : Rho} {res : Sto} (hC : Cx X cX12_laysIts RX12 0) (hml : (xc X).maxLocals = 3) (hR : RtV X cX12_laysIts 0 0 n res ρ) (a0 : Nat) (a1 : Int32) (h0 : Sh n a0 11) (fu : Nat) : ∀ (σ : Sto) (v2 : Int32), fixN (fun _ _ => none) (FX12_laysIts_2 ρ a0 a1) fu σ v2 = some res → G X 0 0 n σ ρ 2 [(0, vr X a0), (1, .int a1), (2, .int v2)] [] := by
  refine fixN_ind (P := fun (f : Sto → Int32 → Option (Sto)) => ∀ (σ : Sto) (v2 : Int32), f σ v2 = some res → G X 0 0 n σ ρ 2 [(0, vr X a0), (1, .int a1), (2, .int v2)] []) ?_ ?_ fu
  · intro σ v2 hM; cases hM
  · intro rec ih σ v2 hM
    unfold FX12_laysIts_2 at hM
    refine g_iload_n hC dX12_laysIts_2 rfl 2 rfl ?_
    refine g_bipush (v := 6) hC dX12_laysIts_3 rfl ib_6 ?_
    refine g_icmp_ge (tgt := 31) hC dX12_laysIts_5 rfl (by decide) hM (fun hM => ?_) (fun hM => ?_)
    · cases hM
      exact g_retv hR dX12_laysIts_31 rfl
    · refine g_aload_n hC dX12_laysIts_8 rfl 0 rfl ?_
      refine fg_11_13 hC h0 k_1095 dX12_laysIts_9 rfl hM (fun j1 hj1 hM => ?_)
      refine g_iload_n hC dX12_laysIts_12 rfl 2 rfl ?_
      refine g_aload_n hC dX12_laysIts_13 rfl 0 rfl ?_
      refine fg_11_0 hC h0 k_1082 dX12_laysIts_14 rfl hM (fun j2 hj2 hM => ?_)
      refine g_bipush (v := 6) hC dX12_laysIts_17 rfl ib_6 ?_
      refine g_iload_n hC dX12_laysIts_19 rfl 1 rfl ?_
      refine g_imul hC dX12_laysIts_20 rfl ?_
      refine g_iload_n hC dX12_laysIts_21 rfl 2 rfl ?_
      refine g_iadd hC dX12_laysIts_22 rfl ?_
      refine g_iald hC hj2 dX12_laysIts_23 rfl hM (fun x3 hM => ?_)
      refine g_iast hC hj1 dX12_laysIts_24 rfl hM (fun σ4 hM => ?_)
      refine g_iinc (v := 1) hC (fun y5 => [(2, .int y5), (0, vr X a0), (1, .int a1)]) dX12_laysIts_25 rfl hM (j := 2) rfl ic_1 hml (by decide) (fun _ => rfl) (fun y5 hM => ?_)
      refine g_goto (tgt := 2) hC dX12_laysIts_28 rfl (by decide) ?_
      exact g_sub [1, 2, 0] (ih _ _ hM) rfl
def MX12_laysIts (σ : Sto) (ρ : Rho) (a0 : Nat) (a1 : Int32) : Option (Sto) :=
  bn ((0 : Int32)) fun y1 =>
  fixN (fun _ _ => none) (FX12_laysIts_2 ρ a0 a1) FU σ y1
set_option maxHeartbeats 4000000 in
set_option maxRecDepth 100000 in
theorem c_X12_laysIts (E : EX) {n : Nat} {σ : Sto} {ρ : Rho} (a0 : Nat) (h0 : Sh n a0 11) (a1 : Int32) (res : Sto) (hM : MX12_laysIts σ ρ a0 a1 = some res) : CTv E yX12_laysIts cX12_laysIts 3 0 0 0 [.ref (eb E + a0), .int a1] n σ ρ res ρ := by
  refine ct_v (by decide +kernel) (Nat.le_of_ble_eq_true rfl) (fun X hE hml hin hRm hC hR => ?_)
  subst hE
  show G X 0 0 n σ ρ 0 [(0, vr X a0), (1, .int a1)] []
  replace hC : Cx X cX12_laysIts RX12 0 := hC
  unfold MX12_laysIts at hM
  refine g_iconst (v := 0) hC dX12_laysIts_0 rfl ic_0 ?_
  refine g_istore_n hC (fun y1 => [(2, .int y1), (0, vr X a0), (1, .int a1)]) dX12_laysIts_1 rfl hM hml (by decide) (fun _ => rfl) (fun y1 hM => ?_)
  exact g_sub [1, 2, 0] ((bX12_laysIts_2 hC hml hR a0 a1 h0  FU) _ _ hM) rfl
def MX12_prime (σ : Sto) (ρ : Rho) (a0 : Nat) (a1 : Int32) : Option (Int32 × Sto) :=
  Option.bind (MX12_isPrime a1) fun c1 =>
  if c1 = 0 then
    Option.bind (MX12_refused σ ρ a0 ((1 : Int32)) ((0 : Int32))) fun c11 =>
    some (c11.1, c11.2)
  else
    Option.bind (ρ a0 0) fun j2 =>
    Option.bind (ag σ j2 ((36 : Int32))) fun x3 =>
    if a1 = x3 then
      Option.bind (MX12_refused σ ρ a0 ((2 : Int32)) ((0 : Int32))) fun c10 =>
      some (c10.1, c10.2)
    else
      Option.bind (MX12_keeps σ ρ a0) fun c4 =>
      Option.bind (ρ a0 0) fun j5 =>
      Option.bind (ap c4 j5 ((36 : Int32)) a1) fun σ6 =>
      Option.bind (ρ a0 0) fun j7 =>
      Option.bind (ap σ6 j7 ((37 : Int32)) ((0 : Int32))) fun σ8 =>
      Option.bind (MX12_refused σ8 ρ a0 ((0 : Int32)) ((0 : Int32))) fun c9 =>
      some (c9.1, c9.2)
set_option maxHeartbeats 4000000 in
set_option maxRecDepth 100000 in
theorem c_X12_prime (E : EX) {n : Nat} {σ : Sto} {ρ : Rho} (a0 : Nat) (h0 : Sh n a0 11) (a1 : Int32) (res : Int32 × Sto) (hM : MX12_prime σ ρ a0 a1 = some res) : CTi E yX12_prime cX12_prime 2 (some .int) 2 [.ref (eb E + a0), .int a1] n σ ρ res.1 res.2 ρ := by
  refine ct_i (by decide +kernel) rfl (Nat.le_of_ble_eq_true rfl) (fun X hE hml hC hR => ?_)
  subst hE
  show G X 0 0 n σ ρ 0 [(0, vr X a0), (1, .int a1)] []
  replace hC : Cx X cX12_prime RX12 2 := hC
  unfold MX12_prime at hM
  refine g_iload_n hC dX12_prime_0 rfl 1 rfl ?_
  refine g_callSi (As := [.int a1]) (st' := []) (L' := 0) hC Y_X12_isPrime k_1148 k_1147 ⟨by decide, by decide⟩ dX12_prime_1 rfl rfl rfl (Nat.le_of_ble_eq_true rfl) ⟨Nat.zero_le _, Nat.zero_le _⟩ hM (fun c hc => c_X12_isPrime (xE X) a1 c hc) (fun c1 hM => ?_)
  refine g_if_ne (tgt := 14) hC dX12_prime_4 rfl (by decide) hM (fun hM => ?_) (fun hM => ?_)
  · refine g_iload_n hC dX12_prime_14 rfl 1 rfl ?_
    refine g_aload_n hC dX12_prime_15 rfl 0 rfl ?_
    refine fg_11_0 hC h0 k_1082 dX12_prime_16 rfl hM (fun j2 hj2 hM => ?_)
    refine g_bipush (v := 36) hC dX12_prime_19 rfl ib_36 ?_
    refine g_iald hC hj2 dX12_prime_21 rfl hM (fun x3 hM => ?_)
    refine g_icmp_ne (tgt := 32) hC dX12_prime_22 rfl (by decide) hM (fun hM => ?_) (fun hM => ?_)
    · refine g_aload_n hC dX12_prime_32 rfl 0 rfl ?_
      refine g_callVv0 (As := []) (st' := []) (k := a0) (L' := 1) hC Y_X12_keeps I_X12_keeps k_1154 ⟨by decide, by decide⟩ h0 (ci := 11) (by decide) rfl dX12_prime_33 rfl rfl rfl (Nat.le_of_ble_eq_true rfl) ⟨Nat.zero_le _, Nat.zero_le _⟩ hM (fun c hc => c_X12_keeps (xE X) a0 h0 c hc) (fun c4 hM => ?_)
      refine g_aload_n hC dX12_prime_36 rfl 0 rfl ?_
      refine fg_11_0 hC h0 k_1082 dX12_prime_37 rfl hM (fun j5 hj5 hM => ?_)
      refine g_bipush (v := 36) hC dX12_prime_40 rfl ib_36 ?_
      refine g_iload_n hC dX12_prime_42 rfl 1 rfl ?_
      refine g_iast hC hj5 dX12_prime_43 rfl hM (fun σ6 hM => ?_)
      refine g_aload_n hC dX12_prime_44 rfl 0 rfl ?_
      refine fg_11_0 hC h0 k_1082 dX12_prime_45 rfl hM (fun j7 hj7 hM => ?_)
      refine g_bipush (v := 37) hC dX12_prime_48 rfl ib_37 ?_
      refine g_iconst (v := 0) hC dX12_prime_50 rfl ic_0 ?_
      refine g_iast hC hj7 dX12_prime_51 rfl hM (fun σ8 hM => ?_)
      refine g_aload_n hC dX12_prime_52 rfl 0 rfl ?_
      refine g_iconst (v := 0) hC dX12_prime_53 rfl ic_0 ?_
      refine g_iconst (v := 0) hC dX12_prime_54 rfl ic_0 ?_
      refine g_callVi (As := [.int ((0 : Int32)), .int ((0 : Int32))]) (st' := []) (k := a0) (L' := 0) hC Y_X12_refused I_X12_refused k_1150 ⟨by decide, by decide⟩ h0 (ci := 11) (by decide) rfl dX12_prime_55 rfl rfl rfl (Nat.le_of_ble_eq_true rfl) ⟨Nat.zero_le _, Nat.zero_le _⟩ hM (fun c hc => c_X12_refused (xE X) a0 h0 ((0 : Int32)) ((0 : Int32)) c hc) (fun c9 hM => ?_)
      cases hM
      exact g_reti hR dX12_prime_58 rfl
    · refine g_aload_n hC dX12_prime_25 rfl 0 rfl ?_
      refine g_iconst (v := 2) hC dX12_prime_26 rfl ic_2 ?_
      refine g_iconst (v := 0) hC dX12_prime_27 rfl ic_0 ?_
      refine g_callVi (As := [.int ((2 : Int32)), .int ((0 : Int32))]) (st' := []) (k := a0) (L' := 0) hC Y_X12_refused I_X12_refused k_1150 ⟨by decide, by decide⟩ h0 (ci := 11) (by decide) rfl dX12_prime_28 rfl rfl rfl (Nat.le_of_ble_eq_true rfl) ⟨Nat.zero_le _, Nat.zero_le _⟩ hM (fun c hc => c_X12_refused (xE X) a0 h0 ((2 : Int32)) ((0 : Int32)) c hc) (fun c10 hM => ?_)
      cases hM
      exact g_reti hR dX12_prime_31 rfl
  · refine g_aload_n hC dX12_prime_7 rfl 0 rfl ?_
    refine g_iconst (v := 1) hC dX12_prime_8 rfl ic_1 ?_
    refine g_iconst (v := 0) hC dX12_prime_9 rfl ic_0 ?_
    refine g_callVi (As := [.int ((1 : Int32)), .int ((0 : Int32))]) (st' := []) (k := a0) (L' := 0) hC Y_X12_refused I_X12_refused k_1150 ⟨by decide, by decide⟩ h0 (ci := 11) (by decide) rfl dX12_prime_10 rfl rfl rfl (Nat.le_of_ble_eq_true rfl) ⟨Nat.zero_le _, Nat.zero_le _⟩ hM (fun c hc => c_X12_refused (xE X) a0 h0 ((1 : Int32)) ((0 : Int32)) c hc) (fun c11 hM => ?_)
    cases hM
    exact g_reti hR dX12_prime_13 rfl
def BX12_set_23 (ρ : Rho) (a0 : Nat) (a1 : Int32) (a2 : Int32) (a3 : Int32) (σ : Sto) : Option (Int32 × Sto) :=
  Option.bind (MX12_refused σ ρ a0 ((1 : Int32)) ((0 : Int32))) fun c1 =>
  some (c1.1, c1.2)
set_option maxHeartbeats 4000000 in
set_option maxRecDepth 100000 in
theorem bX12_set_23 {X : CX} {n : Nat} {ρ : Rho} {res : Int32 × Sto} (hC : Cx X cX12_set RX12 4) (hml : (xc X).maxLocals = 4) (hR : RtT (some .int) X cX12_set n res.1 res.2 ρ) (a0 : Nat) (a1 : Int32) (a2 : Int32) (a3 : Int32) (h0 : Sh n a0 11) : ∀ (σ : Sto), BX12_set_23 ρ a0 a1 a2 a3 σ = some res → G X 0 0 n σ ρ 23 [(0, vr X a0), (1, .int a1), (2, .int a2), (3, .int a3)] [] := by
  intro σ hM
  unfold BX12_set_23 at hM
  refine g_aload_n hC dX12_set_23 rfl 0 rfl ?_
  refine g_iconst (v := 1) hC dX12_set_24 rfl ic_1 ?_
  refine g_iconst (v := 0) hC dX12_set_25 rfl ic_0 ?_
  refine g_callVi (As := [.int ((1 : Int32)), .int ((0 : Int32))]) (st' := []) (k := a0) (L' := 0) hC Y_X12_refused I_X12_refused k_1150 ⟨by decide, by decide⟩ h0 (ci := 11) (by decide) rfl dX12_set_26 rfl rfl rfl (Nat.le_of_ble_eq_true rfl) ⟨Nat.zero_le _, Nat.zero_le _⟩ hM (fun c hc => c_X12_refused (xE X) a0 h0 ((1 : Int32)) ((0 : Int32)) c hc) (fun c1 hM => ?_)
  cases hM
  exact g_reti hR dX12_set_29 rfl
def MX12_set (σ : Sto) (ρ : Rho) (a0 : Nat) (a1 : Int32) (a2 : Int32) (a3 : Int32) : Option (Int32 × Sto) :=
  Option.bind (MX12_isConic a1) fun c1 =>
  if c1 = 0 then
    BX12_set_23 ρ a0 a1 a2 a3 σ
  else
    Option.bind (MX12_isIn a2 ((0 : Int32)) ((5 : Int32))) fun c2 =>
    if c2 = 0 then
      BX12_set_23 ρ a0 a1 a2 a3 σ
    else
      Option.bind (MX12_isShort a3) fun c3 =>
      if c3 = 0 then
        BX12_set_23 ρ a0 a1 a2 a3 σ
      else
        Option.bind (ρ a0 0) fun j4 =>
        Option.bind (ag σ j4 ((((6 : Int32) * a1) + a2))) fun x5 =>
        if x5 = a3 then
          Option.bind (MX12_refused σ ρ a0 ((2 : Int32)) ((0 : Int32))) fun c10 =>
          some (c10.1, c10.2)
        else
          Option.bind (MX12_laysIts σ ρ a0 a1) fun c6 =>
          Option.bind (ρ a0 13) fun j7 =>
          Option.bind (ap c6 j7 a2 a3) fun σ8 =>
          Option.bind (MX12_becomes σ8 ρ a0 a1) fun c9 =>
          some (c9.1, c9.2)
set_option maxHeartbeats 4000000 in
set_option maxRecDepth 100000 in
theorem c_X12_set (E : EX) {n : Nat} {σ : Sto} {ρ : Rho} (a0 : Nat) (h0 : Sh n a0 11) (a1 : Int32) (a2 : Int32) (a3 : Int32) (res : Int32 × Sto) (hM : MX12_set σ ρ a0 a1 a2 a3 = some res) : CTi E yX12_set cX12_set 4 (some .int) 4 [.ref (eb E + a0), .int a1, .int a2, .int a3] n σ ρ res.1 res.2 ρ := by
  refine ct_i (by decide +kernel) rfl (Nat.le_of_ble_eq_true rfl) (fun X hE hml hC hR => ?_)
  subst hE
  show G X 0 0 n σ ρ 0 [(0, vr X a0), (1, .int a1), (2, .int a2), (3, .int a3)] []
  replace hC : Cx X cX12_set RX12 4 := hC
  unfold MX12_set at hM
  refine g_iload_n hC dX12_set_0 rfl 1 rfl ?_
  refine g_callSi (As := [.int a1]) (st' := []) (L' := 1) hC Y_X12_isConic k_1167 k_1166 ⟨by decide, by decide⟩ dX12_set_1 rfl rfl rfl (Nat.le_of_ble_eq_true rfl) ⟨Nat.zero_le _, Nat.zero_le _⟩ hM (fun c hc => c_X12_isConic (xE X) a1 c hc) (fun c1 hM => ?_)
  refine g_if_eq (tgt := 23) hC dX12_set_4 rfl (by decide) hM (fun hM => ?_) (fun hM => ?_)
  · exact g_sub [0, 1, 2, 3] ((bX12_set_23 hC hml hR a0 a1 a2 a3 h0 ) _ hM) rfl
  · refine g_iload_n hC dX12_set_7 rfl 2 rfl ?_
    refine g_iconst (v := 0) hC dX12_set_8 rfl ic_0 ?_
    refine g_iconst (v := 5) hC dX12_set_9 rfl ic_5 ?_
    refine g_callSi (As := [.int a2, .int ((0 : Int32)), .int ((5 : Int32))]) (st' := []) (L' := 0) hC Y_X12_isIn k_1170 k_1169 ⟨by decide, by decide⟩ dX12_set_10 rfl rfl rfl (Nat.le_of_ble_eq_true rfl) ⟨Nat.zero_le _, Nat.zero_le _⟩ hM (fun c hc => c_X12_isIn (xE X) a2 ((0 : Int32)) ((5 : Int32)) c hc) (fun c2 hM => ?_)
    refine g_if_eq (tgt := 23) hC dX12_set_13 rfl (by decide) hM (fun hM => ?_) (fun hM => ?_)
    · exact g_sub [0, 1, 2, 3] ((bX12_set_23 hC hml hR a0 a1 a2 a3 h0 ) _ hM) rfl
    · refine g_iload_n hC dX12_set_16 rfl 3 rfl ?_
      refine g_callSi (As := [.int a3]) (st' := []) (L' := 1) hC Y_X12_isShort k_1173 k_1172 ⟨by decide, by decide⟩ dX12_set_17 rfl rfl rfl (Nat.le_of_ble_eq_true rfl) ⟨Nat.zero_le _, Nat.zero_le _⟩ hM (fun c hc => c_X12_isShort (xE X) a3 c hc) (fun c3 hM => ?_)
      refine g_if_ne (tgt := 30) hC dX12_set_20 rfl (by decide) hM (fun hM => ?_) (fun hM => ?_)
      · refine g_aload_n hC dX12_set_30 rfl 0 rfl ?_
        refine fg_11_0 hC h0 k_1082 dX12_set_31 rfl hM (fun j4 hj4 hM => ?_)
        refine g_bipush (v := 6) hC dX12_set_34 rfl ib_6 ?_
        refine g_iload_n hC dX12_set_36 rfl 1 rfl ?_
        refine g_imul hC dX12_set_37 rfl ?_
        refine g_iload_n hC dX12_set_38 rfl 2 rfl ?_
        refine g_iadd hC dX12_set_39 rfl ?_
        refine g_iald hC hj4 dX12_set_40 rfl hM (fun x5 hM => ?_)
        refine g_iload_n hC dX12_set_41 rfl 3 rfl ?_
        refine g_icmp_ne (tgt := 52) hC dX12_set_42 rfl (by decide) hM (fun hM => ?_) (fun hM => ?_)
        · refine g_aload_n hC dX12_set_52 rfl 0 rfl ?_
          refine g_iload_n hC dX12_set_53 rfl 1 rfl ?_
          refine g_callVv0 (As := [.int a1]) (st' := []) (k := a0) (L' := 0) hC Y_X12_laysIts I_X12_laysIts k_1175 ⟨by decide, by decide⟩ h0 (ci := 11) (by decide) rfl dX12_set_54 rfl rfl rfl (Nat.le_of_ble_eq_true rfl) ⟨Nat.zero_le _, Nat.zero_le _⟩ hM (fun c hc => c_X12_laysIts (xE X) a0 h0 a1 c hc) (fun c6 hM => ?_)
          refine g_aload_n hC dX12_set_57 rfl 0 rfl ?_
          refine fg_11_13 hC h0 k_1095 dX12_set_58 rfl hM (fun j7 hj7 hM => ?_)
          refine g_iload_n hC dX12_set_61 rfl 2 rfl ?_
          refine g_iload_n hC dX12_set_62 rfl 3 rfl ?_
          refine g_iast hC hj7 dX12_set_63 rfl hM (fun σ8 hM => ?_)
          refine g_aload_n hC dX12_set_64 rfl 0 rfl ?_
          refine g_iload_n hC dX12_set_65 rfl 1 rfl ?_
          refine g_callVi (As := [.int a1]) (st' := []) (k := a0) (L' := 3) hC Y_X12_becomes I_X12_becomes k_1179 ⟨by decide, by decide⟩ h0 (ci := 11) (by decide) rfl dX12_set_66 rfl rfl rfl (Nat.le_of_ble_eq_true rfl) ⟨Nat.zero_le _, Nat.zero_le _⟩ hM (fun c hc => c_X12_becomes (xE X) a0 h0 a1 c hc) (fun c9 hM => ?_)
          cases hM
          exact g_reti hR dX12_set_69 rfl
        · refine g_aload_n hC dX12_set_45 rfl 0 rfl ?_
          refine g_iconst (v := 2) hC dX12_set_46 rfl ic_2 ?_
          refine g_iconst (v := 0) hC dX12_set_47 rfl ic_0 ?_
          refine g_callVi (As := [.int ((2 : Int32)), .int ((0 : Int32))]) (st' := []) (k := a0) (L' := 0) hC Y_X12_refused I_X12_refused k_1150 ⟨by decide, by decide⟩ h0 (ci := 11) (by decide) rfl dX12_set_48 rfl rfl rfl (Nat.le_of_ble_eq_true rfl) ⟨Nat.zero_le _, Nat.zero_le _⟩ hM (fun c hc => c_X12_refused (xE X) a0 h0 ((2 : Int32)) ((0 : Int32)) c hc) (fun c10 hM => ?_)
          cases hM
          exact g_reti hR dX12_set_51 rfl
      · exact g_sub [0, 1, 2, 3] ((bX12_set_23 hC hml hR a0 a1 a2 a3 h0 ) _ hM) rfl
def BX12_sum_37 (ρ : Rho) (a0 : Nat) (a1 : Int32) (a2 : Int32) (a3 : Int32) (a4 : Int32) (a5 : Int32) (σ : Sto) : Option (Int32 × Sto) :=
  Option.bind (MX12_refused σ ρ a0 ((1 : Int32)) ((0 : Int32))) fun c1 =>
  some (c1.1, c1.2)
set_option maxHeartbeats 4000000 in
set_option maxRecDepth 100000 in
theorem bX12_sum_37 {X : CX} {n : Nat} {ρ : Rho} {res : Int32 × Sto} (hC : Cx X cX12_sum RX12 4) (hml : (xc X).maxLocals = 7) (hR : RtT (some .int) X cX12_sum n res.1 res.2 ρ) (a0 : Nat) (a1 : Int32) (a2 : Int32) (a3 : Int32) (a4 : Int32) (a5 : Int32) (h0 : Sh n a0 11) : ∀ (σ : Sto), BX12_sum_37 ρ a0 a1 a2 a3 a4 a5 σ = some res → G X 0 0 n σ ρ 37 [(0, vr X a0), (1, .int a1), (2, .int a2), (3, .int a3), (4, .int a4), (5, .int a5)] [] := by
  intro σ hM
  unfold BX12_sum_37 at hM
  refine g_aload_n hC dX12_sum_37 rfl 0 rfl ?_
  refine g_iconst (v := 1) hC dX12_sum_38 rfl ic_1 ?_
  refine g_iconst (v := 0) hC dX12_sum_39 rfl ic_0 ?_
  refine g_callVi (As := [.int ((1 : Int32)), .int ((0 : Int32))]) (st' := []) (k := a0) (L' := 0) hC Y_X12_refused I_X12_refused k_1150 ⟨by decide, by decide⟩ h0 (ci := 11) (by decide) rfl dX12_sum_40 rfl rfl rfl (Nat.le_of_ble_eq_true rfl) ⟨Nat.zero_le _, Nat.zero_le _⟩ hM (fun c hc => c_X12_refused (xE X) a0 h0 ((1 : Int32)) ((0 : Int32)) c hc) (fun c1 hM => ?_)
  cases hM
  exact g_reti hR dX12_sum_43 rfl
def BX12_sum_98 (ρ : Rho) (a0 : Nat) (a1 : Int32) (a2 : Int32) (a3 : Int32) (a4 : Int32) (a5 : Int32) (σ : Sto) : Option (Int32 × Sto) :=
  Option.bind (MX12_becomes σ ρ a0 a1) fun c1 =>
  some (c1.1, c1.2)
set_option maxHeartbeats 4000000 in
set_option maxRecDepth 100000 in
theorem bX12_sum_98 {X : CX} {n : Nat} {ρ : Rho} {res : Int32 × Sto} (hC : Cx X cX12_sum RX12 4) (hml : (xc X).maxLocals = 7) (hR : RtT (some .int) X cX12_sum n res.1 res.2 ρ) (a0 : Nat) (a1 : Int32) (a2 : Int32) (a3 : Int32) (a4 : Int32) (a5 : Int32) (h0 : Sh n a0 11) : ∀ (σ : Sto), BX12_sum_98 ρ a0 a1 a2 a3 a4 a5 σ = some res → G X 0 0 n σ ρ 98 [(0, vr X a0), (1, .int a1), (2, .int a2), (3, .int a3), (4, .int a4), (5, .int a5)] [] := by
  intro σ hM
  unfold BX12_sum_98 at hM
  refine g_aload_n hC dX12_sum_98 rfl 0 rfl ?_
  refine g_iload_n hC dX12_sum_99 rfl 1 rfl ?_
  refine g_callVi (As := [.int a1]) (st' := []) (k := a0) (L' := 3) hC Y_X12_becomes I_X12_becomes k_1179 ⟨by decide, by decide⟩ h0 (ci := 11) (by decide) rfl dX12_sum_100 rfl rfl rfl (Nat.le_of_ble_eq_true rfl) ⟨Nat.zero_le _, Nat.zero_le _⟩ hM (fun c hc => c_X12_becomes (xE X) a0 h0 a1 c hc) (fun c1 hM => ?_)
  cases hM
  exact g_reti hR dX12_sum_103 rfl
def FX12_sum_47 (ρ : Rho) (a0 : Nat) (a1 : Int32) (a2 : Int32) (a3 : Int32) (a4 : Int32) (a5 : Int32) (k98 : Sto → Option (Int32 × Sto)) (rec : Sto → Int32 → Option (Int32 × Sto)) (σ : Sto) (v6 : Int32) : Option (Int32 × Sto) :=
  if (6 : Int32) ≤ v6 then
    k98 σ
  else
    Option.bind (ρ a0 13) fun j1 =>
    Option.bind (ρ a0 0) fun j2 =>
    Option.bind (ag σ j2 ((((6 : Int32) * a2) + v6))) fun x3 =>
    Option.bind (ρ a0 0) fun j4 =>
    Option.bind (ag σ j4 ((((6 : Int32) * a4) + v6))) fun x5 =>
    Option.bind (ap σ j1 v6 (((a3 * x3) + (a5 * x5)))) fun σ6 =>
    bn (v6 + (1 : Int32)) fun y7 =>
    rec σ6 y7
set_option maxHeartbeats 4000000 in
set_option maxRecDepth 100000 in
theorem bX12_sum_47 {X : CX} {n : Nat} {ρ : Rho} {res : Int32 × Sto} (hC : Cx X cX12_sum RX12 4) (hml : (xc X).maxLocals = 7) (hR : RtT (some .int) X cX12_sum n res.1 res.2 ρ) (a0 : Nat) (a1 : Int32) (a2 : Int32) (a3 : Int32) (a4 : Int32) (a5 : Int32) (h0 : Sh n a0 11) (k98 : Sto → Option (Int32 × Sto)) (hk98 : ∀ (σ : Sto), k98 σ = some res → G X 0 0 n σ ρ 98 [(0, vr X a0), (1, .int a1), (2, .int a2), (3, .int a3), (4, .int a4), (5, .int a5)] []) (fu : Nat) : ∀ (σ : Sto) (v6 : Int32), fixN (fun _ _ => none) (FX12_sum_47 ρ a0 a1 a2 a3 a4 a5 k98) fu σ v6 = some res → G X 0 0 n σ ρ 47 [(0, vr X a0), (1, .int a1), (2, .int a2), (3, .int a3), (4, .int a4), (5, .int a5), (6, .int v6)] [] := by
  refine fixN_ind (P := fun (f : Sto → Int32 → Option (Int32 × Sto)) => ∀ (σ : Sto) (v6 : Int32), f σ v6 = some res → G X 0 0 n σ ρ 47 [(0, vr X a0), (1, .int a1), (2, .int a2), (3, .int a3), (4, .int a4), (5, .int a5), (6, .int v6)] []) ?_ ?_ fu
  · intro σ v6 hM; cases hM
  · intro rec ih σ v6 hM
    unfold FX12_sum_47 at hM
    refine g_iload hC dX12_sum_47 rfl 6 rfl ?_
    refine g_bipush (v := 6) hC dX12_sum_49 rfl ib_6 ?_
    refine g_icmp_ge (tgt := 98) hC dX12_sum_51 rfl (by decide) hM (fun hM => ?_) (fun hM => ?_)
    · exact g_sub [0, 1, 2, 3, 4, 5] (hk98 _ hM) rfl
    · refine g_aload_n hC dX12_sum_54 rfl 0 rfl ?_
      refine fg_11_13 hC h0 k_1095 dX12_sum_55 rfl hM (fun j1 hj1 hM => ?_)
      refine g_iload hC dX12_sum_58 rfl 6 rfl ?_
      refine g_iload_n hC dX12_sum_60 rfl 3 rfl ?_
      refine g_aload_n hC dX12_sum_61 rfl 0 rfl ?_
      refine fg_11_0 hC h0 k_1082 dX12_sum_62 rfl hM (fun j2 hj2 hM => ?_)
      refine g_bipush (v := 6) hC dX12_sum_65 rfl ib_6 ?_
      refine g_iload_n hC dX12_sum_67 rfl 2 rfl ?_
      refine g_imul hC dX12_sum_68 rfl ?_
      refine g_iload hC dX12_sum_69 rfl 6 rfl ?_
      refine g_iadd hC dX12_sum_71 rfl ?_
      refine g_iald hC hj2 dX12_sum_72 rfl hM (fun x3 hM => ?_)
      refine g_imul hC dX12_sum_73 rfl ?_
      refine g_iload hC dX12_sum_74 rfl 5 rfl ?_
      refine g_aload_n hC dX12_sum_76 rfl 0 rfl ?_
      refine fg_11_0 hC h0 k_1082 dX12_sum_77 rfl hM (fun j4 hj4 hM => ?_)
      refine g_bipush (v := 6) hC dX12_sum_80 rfl ib_6 ?_
      refine g_iload hC dX12_sum_82 rfl 4 rfl ?_
      refine g_imul hC dX12_sum_84 rfl ?_
      refine g_iload hC dX12_sum_85 rfl 6 rfl ?_
      refine g_iadd hC dX12_sum_87 rfl ?_
      refine g_iald hC hj4 dX12_sum_88 rfl hM (fun x5 hM => ?_)
      refine g_imul hC dX12_sum_89 rfl ?_
      refine g_iadd hC dX12_sum_90 rfl ?_
      refine g_iast hC hj1 dX12_sum_91 rfl hM (fun σ6 hM => ?_)
      refine g_iinc (v := 1) hC (fun y7 => [(6, .int y7), (0, vr X a0), (1, .int a1), (2, .int a2), (3, .int a3), (4, .int a4), (5, .int a5)]) dX12_sum_92 rfl hM (j := 6) rfl ic_1 hml (by decide) (fun _ => rfl) (fun y7 hM => ?_)
      refine g_goto (tgt := 47) hC dX12_sum_95 rfl (by decide) ?_
      exact g_sub [1, 2, 3, 4, 5, 6, 0] (ih _ _ hM) rfl
def MX12_sum (σ : Sto) (ρ : Rho) (a0 : Nat) (a1 : Int32) (a2 : Int32) (a3 : Int32) (a4 : Int32) (a5 : Int32) : Option (Int32 × Sto) :=
  Option.bind (MX12_isConic a1) fun c1 =>
  if c1 = 0 then
    BX12_sum_37 ρ a0 a1 a2 a3 a4 a5 σ
  else
    Option.bind (MX12_isConic a2) fun c2 =>
    if c2 = 0 then
      BX12_sum_37 ρ a0 a1 a2 a3 a4 a5 σ
    else
      Option.bind (MX12_isConic a4) fun c3 =>
      if c3 = 0 then
        BX12_sum_37 ρ a0 a1 a2 a3 a4 a5 σ
      else
        Option.bind (MX12_isShort a3) fun c4 =>
        if c4 = 0 then
          BX12_sum_37 ρ a0 a1 a2 a3 a4 a5 σ
        else
          Option.bind (MX12_isShort a5) fun c5 =>
          if c5 = 0 then
            BX12_sum_37 ρ a0 a1 a2 a3 a4 a5 σ
          else
            bn ((0 : Int32)) fun y6 =>
            fixN (fun _ _ => none) (FX12_sum_47 ρ a0 a1 a2 a3 a4 a5 (BX12_sum_98 ρ a0 a1 a2 a3 a4 a5)) FU σ y6
set_option maxHeartbeats 4000000 in
set_option maxRecDepth 100000 in
theorem c_X12_sum (E : EX) {n : Nat} {σ : Sto} {ρ : Rho} (a0 : Nat) (h0 : Sh n a0 11) (a1 : Int32) (a2 : Int32) (a3 : Int32) (a4 : Int32) (a5 : Int32) (res : Int32 × Sto) (hM : MX12_sum σ ρ a0 a1 a2 a3 a4 a5 = some res) : CTi E yX12_sum cX12_sum 7 (some .int) 4 [.ref (eb E + a0), .int a1, .int a2, .int a3, .int a4, .int a5] n σ ρ res.1 res.2 ρ := by
  refine ct_i (by decide +kernel) rfl (Nat.le_of_ble_eq_true rfl) (fun X hE hml hC hR => ?_)
  subst hE
  show G X 0 0 n σ ρ 0 [(0, vr X a0), (1, .int a1), (2, .int a2), (3, .int a3), (4, .int a4), (5, .int a5)] []
  replace hC : Cx X cX12_sum RX12 4 := hC
  unfold MX12_sum at hM
  refine g_iload_n hC dX12_sum_0 rfl 1 rfl ?_
  refine g_callSi (As := [.int a1]) (st' := []) (L' := 1) hC Y_X12_isConic k_1167 k_1166 ⟨by decide, by decide⟩ dX12_sum_1 rfl rfl rfl (Nat.le_of_ble_eq_true rfl) ⟨Nat.zero_le _, Nat.zero_le _⟩ hM (fun c hc => c_X12_isConic (xE X) a1 c hc) (fun c1 hM => ?_)
  refine g_if_eq (tgt := 37) hC dX12_sum_4 rfl (by decide) hM (fun hM => ?_) (fun hM => ?_)
  · exact g_sub [0, 1, 2, 3, 4, 5] ((bX12_sum_37 hC hml hR a0 a1 a2 a3 a4 a5 h0 ) _ hM) rfl
  · refine g_iload_n hC dX12_sum_7 rfl 2 rfl ?_
    refine g_callSi (As := [.int a2]) (st' := []) (L' := 1) hC Y_X12_isConic k_1167 k_1166 ⟨by decide, by decide⟩ dX12_sum_8 rfl rfl rfl (Nat.le_of_ble_eq_true rfl) ⟨Nat.zero_le _, Nat.zero_le _⟩ hM (fun c hc => c_X12_isConic (xE X) a2 c hc) (fun c2 hM => ?_)
    refine g_if_eq (tgt := 37) hC dX12_sum_11 rfl (by decide) hM (fun hM => ?_) (fun hM => ?_)
    · exact g_sub [0, 1, 2, 3, 4, 5] ((bX12_sum_37 hC hml hR a0 a1 a2 a3 a4 a5 h0 ) _ hM) rfl
    · refine g_iload hC dX12_sum_14 rfl 4 rfl ?_
      refine g_callSi (As := [.int a4]) (st' := []) (L' := 1) hC Y_X12_isConic k_1167 k_1166 ⟨by decide, by decide⟩ dX12_sum_16 rfl rfl rfl (Nat.le_of_ble_eq_true rfl) ⟨Nat.zero_le _, Nat.zero_le _⟩ hM (fun c hc => c_X12_isConic (xE X) a4 c hc) (fun c3 hM => ?_)
      refine g_if_eq (tgt := 37) hC dX12_sum_19 rfl (by decide) hM (fun hM => ?_) (fun hM => ?_)
      · exact g_sub [0, 1, 2, 3, 4, 5] ((bX12_sum_37 hC hml hR a0 a1 a2 a3 a4 a5 h0 ) _ hM) rfl
      · refine g_iload_n hC dX12_sum_22 rfl 3 rfl ?_
        refine g_callSi (As := [.int a3]) (st' := []) (L' := 1) hC Y_X12_isShort k_1173 k_1172 ⟨by decide, by decide⟩ dX12_sum_23 rfl rfl rfl (Nat.le_of_ble_eq_true rfl) ⟨Nat.zero_le _, Nat.zero_le _⟩ hM (fun c hc => c_X12_isShort (xE X) a3 c hc) (fun c4 hM => ?_)
        refine g_if_eq (tgt := 37) hC dX12_sum_26 rfl (by decide) hM (fun hM => ?_) (fun hM => ?_)
        · exact g_sub [0, 1, 2, 3, 4, 5] ((bX12_sum_37 hC hml hR a0 a1 a2 a3 a4 a5 h0 ) _ hM) rfl
        · refine g_iload hC dX12_sum_29 rfl 5 rfl ?_
          refine g_callSi (As := [.int a5]) (st' := []) (L' := 1) hC Y_X12_isShort k_1173 k_1172 ⟨by decide, by decide⟩ dX12_sum_31 rfl rfl rfl (Nat.le_of_ble_eq_true rfl) ⟨Nat.zero_le _, Nat.zero_le _⟩ hM (fun c hc => c_X12_isShort (xE X) a5 c hc) (fun c5 hM => ?_)
          refine g_if_ne (tgt := 44) hC dX12_sum_34 rfl (by decide) hM (fun hM => ?_) (fun hM => ?_)
          · refine g_iconst (v := 0) hC dX12_sum_44 rfl ic_0 ?_
            refine g_istore hC (fun y6 => [(6, .int y6), (0, vr X a0), (1, .int a1), (2, .int a2), (3, .int a3), (4, .int a4), (5, .int a5)]) dX12_sum_45 rfl hM hml (by decide) (fun _ => rfl) (fun y6 hM => ?_)
            exact g_sub [1, 2, 3, 4, 5, 6, 0] ((bX12_sum_47 hC hml hR a0 a1 a2 a3 a4 a5 h0 (BX12_sum_98 ρ a0 a1 a2 a3 a4 a5) (bX12_sum_98 hC hml hR a0 a1 a2 a3 a4 a5 h0 ) FU) _ _ hM) rfl
          · exact g_sub [0, 1, 2, 3, 4, 5] ((bX12_sum_37 hC hml hR a0 a1 a2 a3 a4 a5 h0 ) _ hM) rfl

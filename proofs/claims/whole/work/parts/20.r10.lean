def BX12_touching_104 (ρ : Rho) (a0 : Nat) (a1 : Int32) (a2 : Int32) (rec : Sto → Int32 → Int32 → Option (Int32 × Sto)) (σ : Sto) (v4 : Int32) (v5 : Int32) : Option (Int32 × Sto) :=
  bn (v5 + (1 : Int32)) fun y1 =>
  rec σ v4 y1
set_option maxHeartbeats 4000000 in
set_option maxRecDepth 100000 in
theorem bX12_touching_104 {X : CX} {n : Nat} {ρ : Rho} {res : Int32 × Sto} (hC : Cx X cX12_touching RX12 3) (hml : (xc X).maxLocals = 7) (hR : RtT (some .int) X cX12_touching n res.1 res.2 ρ) (a0 : Nat) (a1 : Int32) (a2 : Int32) (h0 : Sh n a0 11) (rec : Sto → Int32 → Int32 → Option (Int32 × Sto)) (ih : ∀ (σ : Sto) (v4 : Int32) (v5 : Int32), rec σ v4 v5 = some res → G X 0 0 n σ ρ 46 [(0, vr X a0), (1, .int a1), (2, .int a2), (4, .int v4), (5, .int v5)] []) : ∀ (σ : Sto) (v4 : Int32) (v5 : Int32), BX12_touching_104 ρ a0 a1 a2 rec σ v4 v5 = some res → G X 0 0 n σ ρ 104 [(0, vr X a0), (1, .int a1), (2, .int a2), (4, .int v4), (5, .int v5)] [] := by
  intro σ v4 v5 hM
  unfold BX12_touching_104 at hM
  refine g_iinc (v := 1) hC (fun y1 => [(5, .int y1), (0, vr X a0), (1, .int a1), (2, .int a2), (4, .int v4)]) dX12_touching_104 rfl hM (j := 4) rfl ic_1 hml (by decide) (fun _ => rfl) (fun y1 hM => ?_)
  refine g_goto (tgt := 46) hC dX12_touching_107 rfl (by decide) ?_
  exact g_sub [1, 2, 3, 4, 0] (ih _ _ _ hM) rfl
def BX12_touching_101 (ρ : Rho) (a0 : Nat) (a1 : Int32) (a2 : Int32) (rec : Sto → Int32 → Int32 → Option (Int32 × Sto)) (σ : Sto) (v5 : Int32) (t0 : Int32) (t1 : Int32) : Option (Int32 × Sto) :=
  bn ((t0 + t1)) fun y1 =>
  BX12_touching_104 ρ a0 a1 a2 rec σ y1 v5
set_option maxHeartbeats 4000000 in
set_option maxRecDepth 100000 in
theorem bX12_touching_101 {X : CX} {n : Nat} {ρ : Rho} {res : Int32 × Sto} (hC : Cx X cX12_touching RX12 3) (hml : (xc X).maxLocals = 7) (hR : RtT (some .int) X cX12_touching n res.1 res.2 ρ) (a0 : Nat) (a1 : Int32) (a2 : Int32) (h0 : Sh n a0 11) (rec : Sto → Int32 → Int32 → Option (Int32 × Sto)) (ih : ∀ (σ : Sto) (v4 : Int32) (v5 : Int32), rec σ v4 v5 = some res → G X 0 0 n σ ρ 46 [(0, vr X a0), (1, .int a1), (2, .int a2), (4, .int v4), (5, .int v5)] []) : ∀ (σ : Sto) (v5 : Int32) (t0 : Int32) (t1 : Int32), BX12_touching_101 ρ a0 a1 a2 rec σ v5 t0 t1 = some res → G X 0 0 n σ ρ 101 [(0, vr X a0), (1, .int a1), (2, .int a2), (5, .int v5)] [.int t1, .int t0] := by
  intro σ v5 t0 t1 hM
  unfold BX12_touching_101 at hM
  refine g_iadd hC dX12_touching_101 rfl ?_
  refine g_istore hC (fun y1 => [(4, .int y1), (0, vr X a0), (1, .int a1), (2, .int a2), (5, .int v5)]) dX12_touching_102 rfl hM hml (by decide) (fun _ => rfl) (fun y1 hM => ?_)
  exact g_sub [1, 2, 3, 0, 4] ((bX12_touching_104 hC hml hR a0 a1 a2 h0 rec ih ) _ _ _ hM) rfl
def FX12_touching_46 (ρ : Rho) (a0 : Nat) (a1 : Int32) (a2 : Int32) (rec : Sto → Int32 → Int32 → Option (Int32 × Sto)) (σ : Sto) (v4 : Int32) (v5 : Int32) : Option (Int32 × Sto) :=
  Option.bind (MX12_places σ a0) fun c1 =>
  if c1 ≤ v5 then
    some (v4, σ)
  else
    Option.bind (MX12_isBase σ ρ a0 a1 a2 v5) fun c2 =>
    if c2.1 = 0 then
      BX12_touching_104 ρ a0 a1 a2 rec c2.2 v4 v5
    else
      Option.bind (MX12_polarOf c2.2 ρ a0 v5) fun c3 =>
      bn c3.1 fun y4 =>
      Option.bind (MX12_laysConic c3.2 ρ a0 ((0 : Int32)) a1) fun c5 =>
      Option.bind (MX12_polarOf c5 ρ a0 v5) fun c6 =>
      if c6.1 = y4 then
        BX12_touching_101 ρ a0 a1 a2 rec c6.2 v5 v4 ((1 : Int32))
      else
        BX12_touching_101 ρ a0 a1 a2 rec c6.2 v5 v4 ((0 : Int32))
set_option maxHeartbeats 4000000 in
set_option maxRecDepth 100000 in
theorem bX12_touching_46 {X : CX} {n : Nat} {ρ : Rho} {res : Int32 × Sto} (hC : Cx X cX12_touching RX12 3) (hml : (xc X).maxLocals = 7) (hR : RtT (some .int) X cX12_touching n res.1 res.2 ρ) (a0 : Nat) (a1 : Int32) (a2 : Int32) (h0 : Sh n a0 11) (fu : Nat) : ∀ (σ : Sto) (v4 : Int32) (v5 : Int32), fixN (fun _ _ _ => none) (FX12_touching_46 ρ a0 a1 a2) fu σ v4 v5 = some res → G X 0 0 n σ ρ 46 [(0, vr X a0), (1, .int a1), (2, .int a2), (4, .int v4), (5, .int v5)] [] := by
  refine fixN_ind (P := fun (f : Sto → Int32 → Int32 → Option (Int32 × Sto)) => ∀ (σ : Sto) (v4 : Int32) (v5 : Int32), f σ v4 v5 = some res → G X 0 0 n σ ρ 46 [(0, vr X a0), (1, .int a1), (2, .int a2), (4, .int v4), (5, .int v5)] []) ?_ ?_ fu
  · intro σ v4 v5 hM; cases hM
  · intro rec ih σ v4 v5 hM
    unfold FX12_touching_46 at hM
    refine g_iload hC dX12_touching_46 rfl 4 rfl ?_
    refine g_aload_n hC dX12_touching_48 rfl 0 rfl ?_
    refine g_callVi (As := []) (st' := [.int v5]) (k := a0) (L' := 0) hC Y_X12_places I_X12_places k_1227 ⟨by decide, by decide⟩ h0 (ci := 11) (by decide) rfl dX12_touching_49 rfl rfl rfl (Nat.le_of_ble_eq_true rfl) ⟨Nat.zero_le _, Nat.zero_le _⟩ hM (fun c hc => c_X12_places (xE X) a0 h0 c hc) (fun c1 hM => ?_)
    refine g_icmp_ge (tgt := 110) hC dX12_touching_52 rfl (by decide) hM (fun hM => ?_) (fun hM => ?_)
    · refine g_iload hC dX12_touching_110 rfl 3 rfl ?_
      cases hM
      exact g_reti hR dX12_touching_112 rfl
    · refine g_aload_n hC dX12_touching_55 rfl 0 rfl ?_
      refine g_iload_n hC dX12_touching_56 rfl 1 rfl ?_
      refine g_iload_n hC dX12_touching_57 rfl 2 rfl ?_
      refine g_iload hC dX12_touching_58 rfl 4 rfl ?_
      refine g_callVi (As := [.int a1, .int a2, .int v5]) (st' := []) (k := a0) (L' := 2) hC Y_X12_isBase I_X12_isBase k_1407 ⟨by decide, by decide⟩ h0 (ci := 11) (by decide) rfl dX12_touching_60 rfl rfl rfl (Nat.le_of_ble_eq_true rfl) ⟨Nat.zero_le _, Nat.zero_le _⟩ hM (fun c hc => c_X12_isBase (xE X) a0 h0 a1 a2 v5 c hc) (fun c2 hM => ?_)
      refine g_if_ne (tgt := 69) hC dX12_touching_63 rfl (by decide) hM (fun hM => ?_) (fun hM => ?_)
      · refine g_aload_n hC dX12_touching_69 rfl 0 rfl ?_
        refine g_iload hC dX12_touching_70 rfl 4 rfl ?_
        refine g_callVi (As := [.int v5]) (st' := []) (k := a0) (L' := 2) hC Y_X12_polarOf I_X12_polarOf k_1343 ⟨by decide, by decide⟩ h0 (ci := 11) (by decide) rfl dX12_touching_72 rfl rfl rfl (Nat.le_of_ble_eq_true rfl) ⟨Nat.zero_le _, Nat.zero_le _⟩ hM (fun c hc => c_X12_polarOf (xE X) a0 h0 v5 c hc) (fun c3 hM => ?_)
        refine g_istore hC (fun y4 => [(6, .int y4), (0, vr X a0), (1, .int a1), (2, .int a2), (4, .int v4), (5, .int v5)]) dX12_touching_75 rfl hM hml (by decide) (fun _ => rfl) (fun y4 hM => ?_)
        refine g_aload_n hC dX12_touching_77 rfl 1 rfl ?_
        refine g_iconst (v := 0) hC dX12_touching_78 rfl ic_0 ?_
        refine g_iload_n hC dX12_touching_79 rfl 2 rfl ?_
        refine g_callVv0 (As := [.int ((0 : Int32)), .int a1]) (st' := []) (k := a0) (L' := 1) hC Y_X12_laysConic I_X12_laysConic k_1199 ⟨by decide, by decide⟩ h0 (ci := 11) (by decide) rfl dX12_touching_80 rfl rfl rfl (Nat.le_of_ble_eq_true rfl) ⟨Nat.zero_le _, Nat.zero_le _⟩ hM (fun c hc => c_X12_laysConic (xE X) a0 h0 ((0 : Int32)) a1 c hc) (fun c5 hM => ?_)
        refine g_iload hC dX12_touching_83 rfl 4 rfl ?_
        refine g_aload_n hC dX12_touching_85 rfl 1 rfl ?_
        refine g_iload hC dX12_touching_86 rfl 5 rfl ?_
        refine g_callVi (As := [.int v5]) (st' := [.int v4]) (k := a0) (L' := 2) hC Y_X12_polarOf I_X12_polarOf k_1343 ⟨by decide, by decide⟩ h0 (ci := 11) (by decide) rfl dX12_touching_88 rfl rfl rfl (Nat.le_of_ble_eq_true rfl) ⟨Nat.zero_le _, Nat.zero_le _⟩ hM (fun c hc => c_X12_polarOf (xE X) a0 h0 v5 c hc) (fun c6 hM => ?_)
        refine g_iload hC dX12_touching_91 rfl 0 rfl ?_
        refine g_icmp_ne (tgt := 100) hC dX12_touching_93 rfl (by decide) hM (fun hM => ?_) (fun hM => ?_)
        · refine g_iconst (v := 0) hC dX12_touching_100 rfl ic_0 ?_
          exact g_sub [1, 2, 3, 5] ((bX12_touching_101 hC hml hR a0 a1 a2 h0 rec ih ) _ _ _ _ hM) rfl
        · refine g_iconst (v := 1) hC dX12_touching_96 rfl ic_1 ?_
          refine g_goto (tgt := 101) hC dX12_touching_97 rfl (by decide) ?_
          exact g_sub [1, 2, 3, 5] ((bX12_touching_101 hC hml hR a0 a1 a2 h0 rec ih ) _ _ _ _ hM) rfl
      · refine g_goto (tgt := 104) hC dX12_touching_66 rfl (by decide) ?_
        exact g_sub [0, 1, 2, 3, 4] ((bX12_touching_104 hC hml hR a0 a1 a2 h0 rec ih ) _ _ _ hM) rfl
def BX12_touching_19 (ρ : Rho) (a0 : Nat) (a1 : Int32) (a2 : Int32) (σ : Sto) (t0 : Int32) : Option (Int32 × Sto) :=
  bn t0 fun y1 =>
  Option.bind (MX12_laysConic σ ρ a0 ((0 : Int32)) a2) fun c2 =>
  if y1 = 0 then
    some ((-1 : Int32), c2)
  else
    Option.bind (MX12_rankOf c2 ρ a0) fun c3 =>
    if c3.1 = (3 : Int32) then
      bn ((0 : Int32)) fun y4 =>
      bn ((0 : Int32)) fun y5 =>
      fixN (fun _ _ _ => none) (FX12_touching_46 ρ a0 a1 a2) FU c3.2 y4 y5
    else
      some ((-1 : Int32), c3.2)
set_option maxHeartbeats 4000000 in
set_option maxRecDepth 100000 in
theorem bX12_touching_19 {X : CX} {n : Nat} {ρ : Rho} {res : Int32 × Sto} (hC : Cx X cX12_touching RX12 3) (hml : (xc X).maxLocals = 7) (hR : RtT (some .int) X cX12_touching n res.1 res.2 ρ) (a0 : Nat) (a1 : Int32) (a2 : Int32) (h0 : Sh n a0 11) : ∀ (σ : Sto) (t0 : Int32), BX12_touching_19 ρ a0 a1 a2 σ t0 = some res → G X 0 0 n σ ρ 19 [(0, vr X a0), (1, .int a1), (2, .int a2)] [.int t0] := by
  intro σ t0 hM
  unfold BX12_touching_19 at hM
  refine g_istore_n hC (fun y1 => [(3, .int y1), (0, vr X a0), (1, .int a1), (2, .int a2)]) dX12_touching_19 rfl hM hml (by decide) (fun _ => rfl) (fun y1 hM => ?_)
  refine g_aload_n hC dX12_touching_20 rfl 1 rfl ?_
  refine g_iconst (v := 0) hC dX12_touching_21 rfl ic_0 ?_
  refine g_iload_n hC dX12_touching_22 rfl 3 rfl ?_
  refine g_callVv0 (As := [.int ((0 : Int32)), .int a2]) (st' := []) (k := a0) (L' := 1) hC Y_X12_laysConic I_X12_laysConic k_1199 ⟨by decide, by decide⟩ h0 (ci := 11) (by decide) rfl dX12_touching_23 rfl rfl rfl (Nat.le_of_ble_eq_true rfl) ⟨Nat.zero_le _, Nat.zero_le _⟩ hM (fun c hc => c_X12_laysConic (xE X) a0 h0 ((0 : Int32)) a2 c hc) (fun c2 hM => ?_)
  refine g_iload_n hC dX12_touching_26 rfl 0 rfl ?_
  refine g_if_eq (tgt := 38) hC dX12_touching_27 rfl (by decide) hM (fun hM => ?_) (fun hM => ?_)
  · refine g_iconst (v := -1) hC dX12_touching_38 rfl ic_m1 ?_
    obtain rfl := Option.some.inj hM
    exact g_reti hR dX12_touching_39 rfl
  · refine g_aload_n hC dX12_touching_30 rfl 1 rfl ?_
    refine g_callVi (As := []) (st' := []) (k := a0) (L' := 2) hC Y_X12_rankOf I_X12_rankOf k_1211 ⟨by decide, by decide⟩ h0 (ci := 11) (by decide) rfl dX12_touching_31 rfl rfl rfl (Nat.le_of_ble_eq_true rfl) ⟨Nat.zero_le _, Nat.zero_le _⟩ hM (fun c hc => c_X12_rankOf (xE X) a0 h0 c hc) (fun c3 hM => ?_)
    refine g_iconst (v := 3) hC dX12_touching_34 rfl ic_3 ?_
    refine g_icmp_eq (tgt := 40) hC dX12_touching_35 rfl (by decide) hM (fun hM => ?_) (fun hM => ?_)
    · refine g_iconst (v := 0) hC dX12_touching_40 rfl ic_0 ?_
      refine g_istore hC (fun y4 => [(4, .int y4), (3, .int y1), (0, vr X a0), (1, .int a1), (2, .int a2)]) dX12_touching_41 rfl hM hml (by decide) (fun _ => rfl) (fun y4 hM => ?_)
      refine g_iconst (v := 0) hC dX12_touching_43 rfl ic_0 ?_
      refine g_istore hC (fun y5 => [(5, .int y5), (4, .int y4), (3, .int y1), (0, vr X a0), (1, .int a1), (2, .int a2)]) dX12_touching_44 rfl hM hml (by decide) (fun _ => rfl) (fun y5 hM => ?_)
      exact g_sub [3, 4, 5, 1, 0] ((bX12_touching_46 hC hml hR a0 a1 a2 h0  FU) _ _ _ hM) rfl
    · refine g_iconst (v := -1) hC dX12_touching_38 rfl ic_m1 ?_
      obtain rfl := Option.some.inj hM
      exact g_reti hR dX12_touching_39 rfl
def MX12_touching (σ : Sto) (ρ : Rho) (a0 : Nat) (a1 : Int32) (a2 : Int32) : Option (Int32 × Sto) :=
  Option.bind (MX12_laysConic σ ρ a0 ((0 : Int32)) a1) fun c1 =>
  Option.bind (MX12_rankOf c1 ρ a0) fun c2 =>
  if c2.1 = (3 : Int32) then
    BX12_touching_19 ρ a0 a1 a2 c2.2 ((1 : Int32))
  else
    BX12_touching_19 ρ a0 a1 a2 c2.2 ((0 : Int32))
set_option maxHeartbeats 4000000 in
set_option maxRecDepth 100000 in
theorem c_X12_touching (E : EX) {n : Nat} {σ : Sto} {ρ : Rho} (a0 : Nat) (h0 : Sh n a0 11) (a1 : Int32) (a2 : Int32) (res : Int32 × Sto) (hM : MX12_touching σ ρ a0 a1 a2 = some res) : CTi E yX12_touching cX12_touching 7 (some .int) 3 [.ref (eb E + a0), .int a1, .int a2] n σ ρ res.1 res.2 ρ := by
  refine ct_i (by decide +kernel) rfl (Nat.le_of_ble_eq_true rfl) (fun X hE hml hC hR => ?_)
  subst hE
  show G X 0 0 n σ ρ 0 [(0, vr X a0), (1, .int a1), (2, .int a2)] []
  replace hC : Cx X cX12_touching RX12 3 := hC
  unfold MX12_touching at hM
  refine g_aload_n hC dX12_touching_0 rfl 0 rfl ?_
  refine g_iconst (v := 0) hC dX12_touching_1 rfl ic_0 ?_
  refine g_iload_n hC dX12_touching_2 rfl 1 rfl ?_
  refine g_callVv0 (As := [.int ((0 : Int32)), .int a1]) (st' := []) (k := a0) (L' := 1) hC Y_X12_laysConic I_X12_laysConic k_1199 ⟨by decide, by decide⟩ h0 (ci := 11) (by decide) rfl dX12_touching_3 rfl rfl rfl (Nat.le_of_ble_eq_true rfl) ⟨Nat.zero_le _, Nat.zero_le _⟩ hM (fun c hc => c_X12_laysConic (xE X) a0 h0 ((0 : Int32)) a1 c hc) (fun c1 hM => ?_)
  refine g_aload_n hC dX12_touching_6 rfl 0 rfl ?_
  refine g_callVi (As := []) (st' := []) (k := a0) (L' := 2) hC Y_X12_rankOf I_X12_rankOf k_1211 ⟨by decide, by decide⟩ h0 (ci := 11) (by decide) rfl dX12_touching_7 rfl rfl rfl (Nat.le_of_ble_eq_true rfl) ⟨Nat.zero_le _, Nat.zero_le _⟩ hM (fun c hc => c_X12_rankOf (xE X) a0 h0 c hc) (fun c2 hM => ?_)
  refine g_iconst (v := 3) hC dX12_touching_10 rfl ic_3 ?_
  refine g_icmp_ne (tgt := 18) hC dX12_touching_11 rfl (by decide) hM (fun hM => ?_) (fun hM => ?_)
  · refine g_iconst (v := 0) hC dX12_touching_18 rfl ic_0 ?_
    exact g_sub [0, 1, 2] ((bX12_touching_19 hC hml hR a0 a1 a2 h0 ) _ _ hM) rfl
  · refine g_iconst (v := 1) hC dX12_touching_14 rfl ic_1 ?_
    refine g_goto (tgt := 19) hC dX12_touching_15 rfl (by decide) ?_
    exact g_sub [0, 1, 2] ((bX12_touching_19 hC hml hR a0 a1 a2 h0 ) _ _ hM) rfl
def MX12_pencil (σ : Sto) (ρ : Rho) (a0 : Nat) (a1 : Int32) (a2 : Int32) (a3 : Int32) : Option (Int32 × Sto) :=
  Option.bind (MX12_isPencil σ ρ a0 a1 a2) fun c1 =>
  if c1.1 = 0 then
    some ((-1 : Int32), c1.2)
  else
    if a3 = 0 then
      Option.bind (MX12_base c1.2 ρ a0 a1 a2 ((-1 : Int32))) fun c14 =>
      some (((-1 : Int32) - c14.1), c14.2)
    else
      if a3 = (1 : Int32) then
        Option.bind (MX12_fallen c1.2 ρ a0 a1 a2) fun c13 =>
        some (c13.1, c13.2)
      else
        if a3 = (2 : Int32) then
          Option.bind (MX12_touching c1.2 ρ a0 a1 a2) fun c12 =>
          some (c12.1, c12.2)
        else
          Option.bind (MX12_isIn a3 ((100 : Int32)) ((999 : Int32))) fun c2 =>
          if c2 = 0 then
            Option.bind (rmi a3 ((1000 : Int32))) fun z3 =>
            bn z3 fun y4 =>
            Option.bind (MX12_isIn a3 ((1000 : Int32)) ((3999 : Int32))) fun c5 =>
            if c5 = 0 then
              some ((-1 : Int32), c1.2)
            else
              if y4 ≤ (c1.2 a0 7) then
                Option.bind (MX12_laysMember c1.2 ρ a0 a1 a2 y4) fun c6 =>
                if (2000 : Int32) ≤ a3 then
                  if (3000 : Int32) ≤ a3 then
                    Option.bind (MX12_linesOn c6 ρ a0) fun c7 =>
                    some (c7.1, c7.2)
                  else
                    Option.bind (MX12_pointsOn c6 ρ a0) fun c8 =>
                    some (c8.1, c8.2)
                else
                  Option.bind (MX12_kindOf c6 ρ a0) fun c9 =>
                  some (c9.1, c9.2)
              else
                some ((-1 : Int32), c1.2)
          else
            Option.bind (MX12_base c1.2 ρ a0 a1 a2 ((a3 - (100 : Int32)))) fun c10 =>
            bn c10.1 fun y11 =>
            if 0 ≤ y11 then
              some (y11, c10.2)
            else
              some ((-1 : Int32), c10.2)
set_option maxHeartbeats 4000000 in
set_option maxRecDepth 100000 in
theorem c_X12_pencil (E : EX) {n : Nat} {σ : Sto} {ρ : Rho} (a0 : Nat) (h0 : Sh n a0 11) (a1 : Int32) (a2 : Int32) (a3 : Int32) (res : Int32 × Sto) (hM : MX12_pencil σ ρ a0 a1 a2 a3 = some res) : CTi E yX12_pencil cX12_pencil 5 (some .int) 5 [.ref (eb E + a0), .int a1, .int a2, .int a3] n σ ρ res.1 res.2 ρ := by
  refine ct_i (by decide +kernel) rfl (Nat.le_of_ble_eq_true rfl) (fun X hE hml hC hR => ?_)
  subst hE
  show G X 0 0 n σ ρ 0 [(0, vr X a0), (1, .int a1), (2, .int a2), (3, .int a3)] []
  replace hC : Cx X cX12_pencil RX12 5 := hC
  unfold MX12_pencil at hM
  refine g_aload_n hC dX12_pencil_0 rfl 0 rfl ?_
  refine g_iload_n hC dX12_pencil_1 rfl 1 rfl ?_
  refine g_iload_n hC dX12_pencil_2 rfl 2 rfl ?_
  refine g_callVi (As := [.int a1, .int a2]) (st' := []) (k := a0) (L' := 2) hC Y_X12_isPencil I_X12_isPencil k_1395 ⟨by decide, by decide⟩ h0 (ci := 11) (by decide) rfl dX12_pencil_3 rfl rfl rfl (Nat.le_of_ble_eq_true rfl) ⟨Nat.zero_le _, Nat.zero_le _⟩ hM (fun c hc => c_X12_isPencil (xE X) a0 h0 a1 a2 c hc) (fun c1 hM => ?_)
  refine g_if_ne (tgt := 11) hC dX12_pencil_6 rfl (by decide) hM (fun hM => ?_) (fun hM => ?_)
  · refine g_iload_n hC dX12_pencil_11 rfl 3 rfl ?_
    refine g_if_ne (tgt := 25) hC dX12_pencil_12 rfl (by decide) hM (fun hM => ?_) (fun hM => ?_)
    · refine g_iload_n hC dX12_pencil_25 rfl 3 rfl ?_
      refine g_iconst (v := 1) hC dX12_pencil_26 rfl ic_1 ?_
      refine g_icmp_ne (tgt := 37) hC dX12_pencil_27 rfl (by decide) hM (fun hM => ?_) (fun hM => ?_)
      · refine g_iload_n hC dX12_pencil_37 rfl 3 rfl ?_
        refine g_iconst (v := 2) hC dX12_pencil_38 rfl ic_2 ?_
        refine g_icmp_ne (tgt := 49) hC dX12_pencil_39 rfl (by decide) hM (fun hM => ?_) (fun hM => ?_)
        · refine g_iload_n hC dX12_pencil_49 rfl 3 rfl ?_
          refine g_bipush (v := 100) hC dX12_pencil_50 rfl ib_100 ?_
          refine g_sipush (v := 999) hC dX12_pencil_52 rfl is_999 ?_
          refine g_callSi (As := [.int a3, .int ((100 : Int32)), .int ((999 : Int32))]) (st' := []) (L' := 0) hC Y_X12_isIn k_1170 k_1169 ⟨by decide, by decide⟩ dX12_pencil_55 rfl rfl rfl (Nat.le_of_ble_eq_true rfl) ⟨Nat.zero_le _, Nat.zero_le _⟩ hM (fun c hc => c_X12_isIn (xE X) a3 ((100 : Int32)) ((999 : Int32)) c hc) (fun c2 hM => ?_)
          refine g_if_eq (tgt := 85) hC dX12_pencil_58 rfl (by decide) hM (fun hM => ?_) (fun hM => ?_)
          · refine g_iload_n hC dX12_pencil_85 rfl 3 rfl ?_
            refine g_sipush (v := 1000) hC dX12_pencil_86 rfl is_1000 ?_
            refine g_irem hC dX12_pencil_89 rfl hM (fun z3 hM => ?_)
            refine g_istore hC (fun y4 => [(4, .int y4), (0, vr X a0), (1, .int a1), (2, .int a2), (3, .int a3)]) dX12_pencil_90 rfl hM hml (by decide) (fun _ => rfl) (fun y4 hM => ?_)
            refine g_iload_n hC dX12_pencil_92 rfl 4 rfl ?_
            refine g_sipush (v := 1000) hC dX12_pencil_93 rfl is_1000 ?_
            refine g_sipush (v := 3999) hC dX12_pencil_96 rfl is_3999 ?_
            refine g_callSi (As := [.int a3, .int ((1000 : Int32)), .int ((3999 : Int32))]) (st' := []) (L' := 0) hC Y_X12_isIn k_1170 k_1169 ⟨by decide, by decide⟩ dX12_pencil_99 rfl rfl rfl (Nat.le_of_ble_eq_true rfl) ⟨Nat.zero_le _, Nat.zero_le _⟩ hM (fun c hc => c_X12_isIn (xE X) a3 ((1000 : Int32)) ((3999 : Int32)) c hc) (fun c5 hM => ?_)
            refine g_if_eq (tgt := 114) hC dX12_pencil_102 rfl (by decide) hM (fun hM => ?_) (fun hM => ?_)
            · refine g_iconst (v := -1) hC dX12_pencil_114 rfl ic_m1 ?_
              obtain rfl := Option.some.inj hM
              exact g_reti hR dX12_pencil_115 rfl
            · refine g_iload hC dX12_pencil_105 rfl 0 rfl ?_
              refine g_aload_n hC dX12_pencil_107 rfl 1 rfl ?_
              refine fg_11_7 hC h0 k_1089 dX12_pencil_108 rfl ?_
              refine g_icmp_le (tgt := 116) hC dX12_pencil_111 rfl (by decide) hM (fun hM => ?_) (fun hM => ?_)
              · refine g_aload_n hC dX12_pencil_116 rfl 1 rfl ?_
                refine g_iload_n hC dX12_pencil_117 rfl 2 rfl ?_
                refine g_iload_n hC dX12_pencil_118 rfl 3 rfl ?_
                refine g_iload hC dX12_pencil_119 rfl 0 rfl ?_
                refine g_callVv0 (As := [.int a1, .int a2, .int y4]) (st' := []) (k := a0) (L' := 1) hC Y_X12_laysMember I_X12_laysMember k_1415 ⟨by decide, by decide⟩ h0 (ci := 11) (by decide) rfl dX12_pencil_121 rfl rfl rfl (Nat.le_of_ble_eq_true rfl) ⟨Nat.zero_le _, Nat.zero_le _⟩ hM (fun c hc => c_X12_laysMember (xE X) a0 h0 a1 a2 y4 c hc) (fun c6 hM => ?_)
                refine g_iload_n hC dX12_pencil_124 rfl 4 rfl ?_
                refine g_sipush (v := 2000) hC dX12_pencil_125 rfl is_2000 ?_
                refine g_icmp_ge (tgt := 138) hC dX12_pencil_128 rfl (by decide) hM (fun hM => ?_) (fun hM => ?_)
                · refine g_iload_n hC dX12_pencil_138 rfl 4 rfl ?_
                  refine g_sipush (v := 3000) hC dX12_pencil_139 rfl is_3000 ?_
                  refine g_icmp_ge (tgt := 152) hC dX12_pencil_142 rfl (by decide) hM (fun hM => ?_) (fun hM => ?_)
                  · refine g_aload_n hC dX12_pencil_152 rfl 1 rfl ?_
                    refine g_callVi (As := []) (st' := []) (k := a0) (L' := 3) hC Y_X12_linesOn I_X12_linesOn k_1223 ⟨by decide, by decide⟩ h0 (ci := 11) (by decide) rfl dX12_pencil_153 rfl rfl rfl (Nat.le_of_ble_eq_true rfl) ⟨Nat.zero_le _, Nat.zero_le _⟩ hM (fun c hc => c_X12_linesOn (xE X) a0 h0 c hc) (fun c7 hM => ?_)
                    cases hM
                    exact g_reti hR dX12_pencil_156 rfl
                  · refine g_aload_n hC dX12_pencil_145 rfl 1 rfl ?_
                    refine g_callVi (As := []) (st' := []) (k := a0) (L' := 2) hC Y_X12_pointsOn I_X12_pointsOn k_1327 ⟨by decide, by decide⟩ h0 (ci := 11) (by decide) rfl dX12_pencil_146 rfl rfl rfl (Nat.le_of_ble_eq_true rfl) ⟨Nat.zero_le _, Nat.zero_le _⟩ hM (fun c hc => c_X12_pointsOn (xE X) a0 h0 c hc) (fun c8 hM => ?_)
                    refine g_goto (tgt := 156) hC dX12_pencil_149 rfl (by decide) ?_
                    cases hM
                    exact g_reti hR dX12_pencil_156 rfl
                · refine g_aload_n hC dX12_pencil_131 rfl 1 rfl ?_
                  refine g_callVi (As := []) (st' := []) (k := a0) (L' := 4) hC Y_X12_kindOf I_X12_kindOf k_1207 ⟨by decide, by decide⟩ h0 (ci := 11) (by decide) rfl dX12_pencil_132 rfl rfl rfl (Nat.le_of_ble_eq_true rfl) ⟨Nat.zero_le _, Nat.zero_le _⟩ hM (fun c hc => c_X12_kindOf (xE X) a0 h0 c hc) (fun c9 hM => ?_)
                  refine g_goto (tgt := 156) hC dX12_pencil_135 rfl (by decide) ?_
                  cases hM
                  exact g_reti hR dX12_pencil_156 rfl
              · refine g_iconst (v := -1) hC dX12_pencil_114 rfl ic_m1 ?_
                obtain rfl := Option.some.inj hM
                exact g_reti hR dX12_pencil_115 rfl
          · refine g_aload_n hC dX12_pencil_61 rfl 0 rfl ?_
            refine g_iload_n hC dX12_pencil_62 rfl 1 rfl ?_
            refine g_iload_n hC dX12_pencil_63 rfl 2 rfl ?_
            refine g_iload_n hC dX12_pencil_64 rfl 3 rfl ?_
            refine g_bipush (v := 100) hC dX12_pencil_65 rfl ib_100 ?_
            refine g_isub hC dX12_pencil_67 rfl ?_
            refine g_callVi (As := [.int a1, .int a2, .int ((a3 - (100 : Int32)))]) (st' := []) (k := a0) (L' := 3) hC Y_X12_base I_X12_base k_1403 ⟨by decide, by decide⟩ h0 (ci := 11) (by decide) rfl dX12_pencil_68 rfl rfl rfl (Nat.le_of_ble_eq_true rfl) ⟨Nat.zero_le _, Nat.zero_le _⟩ hM (fun c hc => c_X12_base (xE X) a0 h0 a1 a2 ((a3 - (100 : Int32))) c hc) (fun c10 hM => ?_)
            refine g_istore hC (fun y11 => [(4, .int y11), (0, vr X a0), (1, .int a1), (2, .int a2), (3, .int a3)]) dX12_pencil_71 rfl hM hml (by decide) (fun _ => rfl) (fun y11 hM => ?_)
            refine g_iload hC dX12_pencil_73 rfl 0 rfl ?_
            refine g_if_ge (tgt := 82) hC dX12_pencil_75 rfl (by decide) hM (fun hM => ?_) (fun hM => ?_)
            · refine g_iload hC dX12_pencil_82 rfl 0 rfl ?_
              cases hM
              exact g_reti hR dX12_pencil_84 rfl
            · refine g_iconst (v := -1) hC dX12_pencil_78 rfl ic_m1 ?_
              refine g_goto (tgt := 84) hC dX12_pencil_79 rfl (by decide) ?_
              obtain rfl := Option.some.inj hM
              exact g_reti hR dX12_pencil_84 rfl
        · refine g_aload_n hC dX12_pencil_42 rfl 0 rfl ?_
          refine g_iload_n hC dX12_pencil_43 rfl 1 rfl ?_
          refine g_iload_n hC dX12_pencil_44 rfl 2 rfl ?_
          refine g_callVi (As := [.int a1, .int a2]) (st' := []) (k := a0) (L' := 3) hC Y_X12_touching I_X12_touching k_1419 ⟨by decide, by decide⟩ h0 (ci := 11) (by decide) rfl dX12_pencil_45 rfl rfl rfl (Nat.le_of_ble_eq_true rfl) ⟨Nat.zero_le _, Nat.zero_le _⟩ hM (fun c hc => c_X12_touching (xE X) a0 h0 a1 a2 c hc) (fun c12 hM => ?_)
          cases hM
          exact g_reti hR dX12_pencil_48 rfl
      · refine g_aload_n hC dX12_pencil_30 rfl 0 rfl ?_
        refine g_iload_n hC dX12_pencil_31 rfl 1 rfl ?_
        refine g_iload_n hC dX12_pencil_32 rfl 2 rfl ?_
        refine g_callVi (As := [.int a1, .int a2]) (st' := []) (k := a0) (L' := 3) hC Y_X12_fallen I_X12_fallen k_1411 ⟨by decide, by decide⟩ h0 (ci := 11) (by decide) rfl dX12_pencil_33 rfl rfl rfl (Nat.le_of_ble_eq_true rfl) ⟨Nat.zero_le _, Nat.zero_le _⟩ hM (fun c hc => c_X12_fallen (xE X) a0 h0 a1 a2 c hc) (fun c13 hM => ?_)
        cases hM
        exact g_reti hR dX12_pencil_36 rfl
    · refine g_iconst (v := -1) hC dX12_pencil_15 rfl ic_m1 ?_
      refine g_aload_n hC dX12_pencil_16 rfl 0 rfl ?_
      refine g_iload_n hC dX12_pencil_17 rfl 1 rfl ?_
      refine g_iload_n hC dX12_pencil_18 rfl 2 rfl ?_
      refine g_iconst (v := -1) hC dX12_pencil_19 rfl ic_m1 ?_
      refine g_callVi (As := [.int a1, .int a2, .int ((-1 : Int32))]) (st' := [.int ((-1 : Int32))]) (k := a0) (L' := 3) hC Y_X12_base I_X12_base k_1403 ⟨by decide, by decide⟩ h0 (ci := 11) (by decide) rfl dX12_pencil_20 rfl rfl rfl (Nat.le_of_ble_eq_true rfl) ⟨Nat.zero_le _, Nat.zero_le _⟩ hM (fun c hc => c_X12_base (xE X) a0 h0 a1 a2 ((-1 : Int32)) c hc) (fun c14 hM => ?_)
      refine g_isub hC dX12_pencil_23 rfl ?_
      obtain rfl := Option.some.inj hM
      exact g_reti hR dX12_pencil_24 rfl
  · refine g_iconst (v := -1) hC dX12_pencil_9 rfl ic_m1 ?_
    obtain rfl := Option.some.inj hM
    exact g_reti hR dX12_pencil_10 rfl
def MX12_member (σ : Sto) (ρ : Rho) (a0 : Nat) (a1 : Int32) (a2 : Int32) (a3 : Int32) (a4 : Int32) : Option (Int32 × Sto) :=
  Option.bind (MX12_isPencil σ ρ a0 a1 a2) fun c1 =>
  if c1.1 = 0 then
    some ((-1 : Int32), c1.2)
  else
    Option.bind (MX12_isIn a3 ((0 : Int32)) ((c1.2 a0 7))) fun c2 =>
    if c2 = 0 then
      some ((-1 : Int32), c1.2)
    else
      Option.bind (MX12_isIn a4 ((0 : Int32)) ((5 : Int32))) fun c3 =>
      if c3 = 0 then
        some ((-1 : Int32), c1.2)
      else
        Option.bind (MX12_laysMember c1.2 ρ a0 a1 a2 a3) fun c4 =>
        Option.bind (ρ a0 11) fun j5 =>
        Option.bind (ag c4 j5 a4) fun x6 =>
        some (x6, c4)
set_option maxHeartbeats 4000000 in
set_option maxRecDepth 100000 in
theorem c_X12_member (E : EX) {n : Nat} {σ : Sto} {ρ : Rho} (a0 : Nat) (h0 : Sh n a0 11) (a1 : Int32) (a2 : Int32) (a3 : Int32) (a4 : Int32) (res : Int32 × Sto) (hM : MX12_member σ ρ a0 a1 a2 a3 a4 = some res) : CTi E yX12_member cX12_member 5 (some .int) 3 [.ref (eb E + a0), .int a1, .int a2, .int a3, .int a4] n σ ρ res.1 res.2 ρ := by
  refine ct_i (by decide +kernel) rfl (Nat.le_of_ble_eq_true rfl) (fun X hE hml hC hR => ?_)
  subst hE
  show G X 0 0 n σ ρ 0 [(0, vr X a0), (1, .int a1), (2, .int a2), (3, .int a3), (4, .int a4)] []
  replace hC : Cx X cX12_member RX12 3 := hC
  unfold MX12_member at hM
  refine g_aload_n hC dX12_member_0 rfl 0 rfl ?_
  refine g_iload_n hC dX12_member_1 rfl 1 rfl ?_
  refine g_iload_n hC dX12_member_2 rfl 2 rfl ?_
  refine g_callVi (As := [.int a1, .int a2]) (st' := []) (k := a0) (L' := 2) hC Y_X12_isPencil I_X12_isPencil k_1395 ⟨by decide, by decide⟩ h0 (ci := 11) (by decide) rfl dX12_member_3 rfl rfl rfl (Nat.le_of_ble_eq_true rfl) ⟨Nat.zero_le _, Nat.zero_le _⟩ hM (fun c hc => c_X12_isPencil (xE X) a0 h0 a1 a2 c hc) (fun c1 hM => ?_)
  refine g_if_eq (tgt := 31) hC dX12_member_6 rfl (by decide) hM (fun hM => ?_) (fun hM => ?_)
  · refine g_iconst (v := -1) hC dX12_member_31 rfl ic_m1 ?_
    obtain rfl := Option.some.inj hM
    exact g_reti hR dX12_member_32 rfl
  · refine g_iload_n hC dX12_member_9 rfl 3 rfl ?_
    refine g_iconst (v := 0) hC dX12_member_10 rfl ic_0 ?_
    refine g_aload_n hC dX12_member_11 rfl 0 rfl ?_
    refine fg_11_7 hC h0 k_1089 dX12_member_12 rfl ?_
    refine g_callSi (As := [.int a3, .int ((0 : Int32)), .int ((c1.2 a0 7))]) (st' := []) (L' := 0) hC Y_X12_isIn k_1170 k_1169 ⟨by decide, by decide⟩ dX12_member_15 rfl rfl rfl (Nat.le_of_ble_eq_true rfl) ⟨Nat.zero_le _, Nat.zero_le _⟩ hM (fun c hc => c_X12_isIn (xE X) a3 ((0 : Int32)) ((c1.2 a0 7)) c hc) (fun c2 hM => ?_)
    refine g_if_eq (tgt := 31) hC dX12_member_18 rfl (by decide) hM (fun hM => ?_) (fun hM => ?_)
    · refine g_iconst (v := -1) hC dX12_member_31 rfl ic_m1 ?_
      obtain rfl := Option.some.inj hM
      exact g_reti hR dX12_member_32 rfl
    · refine g_iload hC dX12_member_21 rfl 4 rfl ?_
      refine g_iconst (v := 0) hC dX12_member_23 rfl ic_0 ?_
      refine g_iconst (v := 5) hC dX12_member_24 rfl ic_5 ?_
      refine g_callSi (As := [.int a4, .int ((0 : Int32)), .int ((5 : Int32))]) (st' := []) (L' := 0) hC Y_X12_isIn k_1170 k_1169 ⟨by decide, by decide⟩ dX12_member_25 rfl rfl rfl (Nat.le_of_ble_eq_true rfl) ⟨Nat.zero_le _, Nat.zero_le _⟩ hM (fun c hc => c_X12_isIn (xE X) a4 ((0 : Int32)) ((5 : Int32)) c hc) (fun c3 hM => ?_)
      refine g_if_ne (tgt := 33) hC dX12_member_28 rfl (by decide) hM (fun hM => ?_) (fun hM => ?_)
      · refine g_aload_n hC dX12_member_33 rfl 0 rfl ?_
        refine g_iload_n hC dX12_member_34 rfl 1 rfl ?_
        refine g_iload_n hC dX12_member_35 rfl 2 rfl ?_
        refine g_iload_n hC dX12_member_36 rfl 3 rfl ?_
        refine g_callVv0 (As := [.int a1, .int a2, .int a3]) (st' := []) (k := a0) (L' := 1) hC Y_X12_laysMember I_X12_laysMember k_1415 ⟨by decide, by decide⟩ h0 (ci := 11) (by decide) rfl dX12_member_37 rfl rfl rfl (Nat.le_of_ble_eq_true rfl) ⟨Nat.zero_le _, Nat.zero_le _⟩ hM (fun c hc => c_X12_laysMember (xE X) a0 h0 a1 a2 a3 c hc) (fun c4 hM => ?_)
        refine g_aload_n hC dX12_member_40 rfl 0 rfl ?_
        refine fg_11_11 hC h0 k_1093 dX12_member_41 rfl hM (fun j5 hj5 hM => ?_)
        refine g_iload hC dX12_member_44 rfl 4 rfl ?_
        refine g_iald hC hj5 dX12_member_46 rfl hM (fun x6 hM => ?_)
        cases hM
        exact g_reti hR dX12_member_47 rfl
      · refine g_iconst (v := -1) hC dX12_member_31 rfl ic_m1 ?_
        obtain rfl := Option.some.inj hM
        exact g_reti hR dX12_member_32 rfl
def FX12_passing_22 (ρ : Rho) (a0 : Nat) (a1 : Int32) (a2 : Int32) (a3 : Int32) (rec : Sto → Int32 → Option (Int32 × Sto)) (σ : Sto) (v4 : Int32) : Option (Int32 × Sto) :=
  if (σ a0 7) < v4 then
    some ((-1 : Int32), σ)
  else
    Option.bind (MX12_laysMember σ ρ a0 a1 a2 v4) fun c1 =>
    Option.bind (MX12_isOn c1 ρ a0 a3) fun c2 =>
    if c2.1 = 0 then
      bn (v4 + (1 : Int32)) fun y3 =>
      rec c2.2 y3
    else
      some (v4, c2.2)
set_option maxHeartbeats 4000000 in
set_option maxRecDepth 100000 in
theorem bX12_passing_22 {X : CX} {n : Nat} {ρ : Rho} {res : Int32 × Sto} (hC : Cx X cX12_passing RX12 3) (hml : (xc X).maxLocals = 5) (hR : RtT (some .int) X cX12_passing n res.1 res.2 ρ) (a0 : Nat) (a1 : Int32) (a2 : Int32) (a3 : Int32) (h0 : Sh n a0 11) (fu : Nat) : ∀ (σ : Sto) (v4 : Int32), fixN (fun _ _ => none) (FX12_passing_22 ρ a0 a1 a2 a3) fu σ v4 = some res → G X 0 0 n σ ρ 22 [(0, vr X a0), (1, .int a1), (2, .int a2), (3, .int a3), (4, .int v4)] [] := by
  refine fixN_ind (P := fun (f : Sto → Int32 → Option (Int32 × Sto)) => ∀ (σ : Sto) (v4 : Int32), f σ v4 = some res → G X 0 0 n σ ρ 22 [(0, vr X a0), (1, .int a1), (2, .int a2), (3, .int a3), (4, .int v4)] []) ?_ ?_ fu
  · intro σ v4 hM; cases hM
  · intro rec ih σ v4 hM
    unfold FX12_passing_22 at hM
    refine g_iload hC dX12_passing_22 rfl 4 rfl ?_
    refine g_aload_n hC dX12_passing_24 rfl 0 rfl ?_
    refine fg_11_7 hC h0 k_1089 dX12_passing_25 rfl ?_
    refine g_icmp_gt (tgt := 56) hC dX12_passing_28 rfl (by decide) hM (fun hM => ?_) (fun hM => ?_)
    · refine g_iconst (v := -1) hC dX12_passing_56 rfl ic_m1 ?_
      obtain rfl := Option.some.inj hM
      exact g_reti hR dX12_passing_57 rfl
    · refine g_aload_n hC dX12_passing_31 rfl 0 rfl ?_
      refine g_iload_n hC dX12_passing_32 rfl 1 rfl ?_
      refine g_iload_n hC dX12_passing_33 rfl 2 rfl ?_
      refine g_iload hC dX12_passing_34 rfl 4 rfl ?_
      refine g_callVv0 (As := [.int a1, .int a2, .int v4]) (st' := []) (k := a0) (L' := 1) hC Y_X12_laysMember I_X12_laysMember k_1415 ⟨by decide, by decide⟩ h0 (ci := 11) (by decide) rfl dX12_passing_36 rfl rfl rfl (Nat.le_of_ble_eq_true rfl) ⟨Nat.zero_le _, Nat.zero_le _⟩ hM (fun c hc => c_X12_laysMember (xE X) a0 h0 a1 a2 v4 c hc) (fun c1 hM => ?_)
      refine g_aload_n hC dX12_passing_39 rfl 0 rfl ?_
      refine g_iload_n hC dX12_passing_40 rfl 3 rfl ?_
      refine g_callVi (As := [.int a3]) (st' := []) (k := a0) (L' := 1) hC Y_X12_isOn I_X12_isOn k_1243 ⟨by decide, by decide⟩ h0 (ci := 11) (by decide) rfl dX12_passing_41 rfl rfl rfl (Nat.le_of_ble_eq_true rfl) ⟨Nat.zero_le _, Nat.zero_le _⟩ hM (fun c hc => c_X12_isOn (xE X) a0 h0 a3 c hc) (fun c2 hM => ?_)
      refine g_if_eq (tgt := 50) hC dX12_passing_44 rfl (by decide) hM (fun hM => ?_) (fun hM => ?_)
      · refine g_iinc (v := 1) hC (fun y3 => [(4, .int y3), (0, vr X a0), (1, .int a1), (2, .int a2), (3, .int a3)]) dX12_passing_50 rfl hM (j := 4) rfl ic_1 hml (by decide) (fun _ => rfl) (fun y3 hM => ?_)
        refine g_goto (tgt := 22) hC dX12_passing_53 rfl (by decide) ?_
        exact g_sub [1, 2, 3, 4, 0] (ih _ _ hM) rfl
      · refine g_iload hC dX12_passing_47 rfl 4 rfl ?_
        cases hM
        exact g_reti hR dX12_passing_49 rfl
def MX12_passing (σ : Sto) (ρ : Rho) (a0 : Nat) (a1 : Int32) (a2 : Int32) (a3 : Int32) : Option (Int32 × Sto) :=
  Option.bind (MX12_isPencil σ ρ a0 a1 a2) fun c1 =>
  if c1.1 = 0 then
    some ((-1 : Int32), c1.2)
  else
    Option.bind (MX12_isPlace c1.2 ρ a0 a3) fun c2 =>
    if c2.1 = 0 then
      some ((-1 : Int32), c2.2)
    else
      bn ((0 : Int32)) fun y3 =>
      fixN (fun _ _ => none) (FX12_passing_22 ρ a0 a1 a2 a3) FU c2.2 y3
set_option maxHeartbeats 4000000 in
set_option maxRecDepth 100000 in
theorem c_X12_passing (E : EX) {n : Nat} {σ : Sto} {ρ : Rho} (a0 : Nat) (h0 : Sh n a0 11) (a1 : Int32) (a2 : Int32) (a3 : Int32) (res : Int32 × Sto) (hM : MX12_passing σ ρ a0 a1 a2 a3 = some res) : CTi E yX12_passing cX12_passing 5 (some .int) 3 [.ref (eb E + a0), .int a1, .int a2, .int a3] n σ ρ res.1 res.2 ρ := by
  refine ct_i (by decide +kernel) rfl (Nat.le_of_ble_eq_true rfl) (fun X hE hml hC hR => ?_)
  subst hE
  show G X 0 0 n σ ρ 0 [(0, vr X a0), (1, .int a1), (2, .int a2), (3, .int a3)] []
  replace hC : Cx X cX12_passing RX12 3 := hC
  unfold MX12_passing at hM
  refine g_aload_n hC dX12_passing_0 rfl 0 rfl ?_
  refine g_iload_n hC dX12_passing_1 rfl 1 rfl ?_
  refine g_iload_n hC dX12_passing_2 rfl 2 rfl ?_
  refine g_callVi (As := [.int a1, .int a2]) (st' := []) (k := a0) (L' := 2) hC Y_X12_isPencil I_X12_isPencil k_1395 ⟨by decide, by decide⟩ h0 (ci := 11) (by decide) rfl dX12_passing_3 rfl rfl rfl (Nat.le_of_ble_eq_true rfl) ⟨Nat.zero_le _, Nat.zero_le _⟩ hM (fun c hc => c_X12_isPencil (xE X) a0 h0 a1 a2 c hc) (fun c1 hM => ?_)
  refine g_if_eq (tgt := 17) hC dX12_passing_6 rfl (by decide) hM (fun hM => ?_) (fun hM => ?_)
  · refine g_iconst (v := -1) hC dX12_passing_17 rfl ic_m1 ?_
    obtain rfl := Option.some.inj hM
    exact g_reti hR dX12_passing_18 rfl
  · refine g_aload_n hC dX12_passing_9 rfl 0 rfl ?_
    refine g_iload_n hC dX12_passing_10 rfl 3 rfl ?_
    refine g_callVi (As := [.int a3]) (st' := []) (k := a0) (L' := 1) hC Y_X12_isPlace I_X12_isPlace k_1271 ⟨by decide, by decide⟩ h0 (ci := 11) (by decide) rfl dX12_passing_11 rfl rfl rfl (Nat.le_of_ble_eq_true rfl) ⟨Nat.zero_le _, Nat.zero_le _⟩ hM (fun c hc => c_X12_isPlace (xE X) a0 h0 a3 c hc) (fun c2 hM => ?_)
    refine g_if_ne (tgt := 19) hC dX12_passing_14 rfl (by decide) hM (fun hM => ?_) (fun hM => ?_)
    · refine g_iconst (v := 0) hC dX12_passing_19 rfl ic_0 ?_
      refine g_istore hC (fun y3 => [(4, .int y3), (0, vr X a0), (1, .int a1), (2, .int a2), (3, .int a3)]) dX12_passing_20 rfl hM hml (by decide) (fun _ => rfl) (fun y3 hM => ?_)
      exact g_sub [1, 2, 3, 4, 0] ((bX12_passing_22 hC hml hR a0 a1 a2 a3 h0  FU) _ _ hM) rfl
    · refine g_iconst (v := -1) hC dX12_passing_17 rfl ic_m1 ?_
      obtain rfl := Option.some.inj hM
      exact g_reti hR dX12_passing_18 rfl
def MX12_only (σ : Sto) (ρ : Rho) (a0 : Nat) (a1 : Int32) : Option (Int32 × Sto) :=
  Option.bind (MX12_isIn a1 ((0 : Int32)) ((5 : Int32))) fun c1 =>
  if c1 = 0 then
    some ((-1 : Int32), σ)
  else
    Option.bind (MX12_hasOne σ ρ a0) fun c2 =>
    if c2.1 = 0 then
      some ((-1 : Int32), c2.2)
    else
      Option.bind (ρ a0 13) fun j3 =>
      Option.bind (ag c2.2 j3 a1) fun x4 =>
      some (x4, c2.2)
set_option maxHeartbeats 4000000 in
set_option maxRecDepth 100000 in
theorem c_X12_only (E : EX) {n : Nat} {σ : Sto} {ρ : Rho} (a0 : Nat) (h0 : Sh n a0 11) (a1 : Int32) (res : Int32 × Sto) (hM : MX12_only σ ρ a0 a1 = some res) : CTi E yX12_only cX12_only 2 (some .int) 4 [.ref (eb E + a0), .int a1] n σ ρ res.1 res.2 ρ := by
  refine ct_i (by decide +kernel) rfl (Nat.le_of_ble_eq_true rfl) (fun X hE hml hC hR => ?_)
  subst hE
  show G X 0 0 n σ ρ 0 [(0, vr X a0), (1, .int a1)] []
  replace hC : Cx X cX12_only RX12 4 := hC
  unfold MX12_only at hM
  refine g_iload_n hC dX12_only_0 rfl 1 rfl ?_
  refine g_iconst (v := 0) hC dX12_only_1 rfl ic_0 ?_
  refine g_iconst (v := 5) hC dX12_only_2 rfl ic_5 ?_
  refine g_callSi (As := [.int a1, .int ((0 : Int32)), .int ((5 : Int32))]) (st' := []) (L' := 0) hC Y_X12_isIn k_1170 k_1169 ⟨by decide, by decide⟩ dX12_only_3 rfl rfl rfl (Nat.le_of_ble_eq_true rfl) ⟨Nat.zero_le _, Nat.zero_le _⟩ hM (fun c hc => c_X12_isIn (xE X) a1 ((0 : Int32)) ((5 : Int32)) c hc) (fun c1 hM => ?_)
  refine g_if_eq (tgt := 25) hC dX12_only_6 rfl (by decide) hM (fun hM => ?_) (fun hM => ?_)
  · refine g_iconst (v := -1) hC dX12_only_25 rfl ic_m1 ?_
    obtain rfl := Option.some.inj hM
    exact g_reti hR dX12_only_26 rfl
  · refine g_aload_n hC dX12_only_9 rfl 0 rfl ?_
    refine g_callVi (As := []) (st' := []) (k := a0) (L' := 3) hC Y_X12_hasOne I_X12_hasOne k_1255 ⟨by decide, by decide⟩ h0 (ci := 11) (by decide) rfl dX12_only_10 rfl rfl rfl (Nat.le_of_ble_eq_true rfl) ⟨Nat.zero_le _, Nat.zero_le _⟩ hM (fun c hc => c_X12_hasOne (xE X) a0 h0 c hc) (fun c2 hM => ?_)
    refine g_if_eq (tgt := 25) hC dX12_only_13 rfl (by decide) hM (fun hM => ?_) (fun hM => ?_)
    · refine g_iconst (v := -1) hC dX12_only_25 rfl ic_m1 ?_
      obtain rfl := Option.some.inj hM
      exact g_reti hR dX12_only_26 rfl
    · refine g_aload_n hC dX12_only_16 rfl 0 rfl ?_
      refine fg_11_13 hC h0 k_1095 dX12_only_17 rfl hM (fun j3 hj3 hM => ?_)
      refine g_iload_n hC dX12_only_20 rfl 1 rfl ?_
      refine g_iald hC hj3 dX12_only_21 rfl hM (fun x4 hM => ?_)
      refine g_goto (tgt := 26) hC dX12_only_22 rfl (by decide) ?_
      cases hM
      exact g_reti hR dX12_only_26 rfl
def MX12_freed (σ : Sto) (ρ : Rho) (a0 : Nat) (a1 : Int32) : Option (Int32 × Sto) :=
  Option.bind (MX12_isPlace σ ρ a0 a1) fun c1 =>
  if c1.1 = 0 then
    some ((-1 : Int32), c1.2)
  else
    Option.bind (MX12_markOf c1.2 ρ a0 ((0 : Int32)) a1) fun c2 =>
    if c2 = (-1 : Int32) then
      Option.bind (MX12_rankWith c1.2 ρ a0 a1) fun c3 =>
      some (((6 : Int32) - c3.1), c3.2)
    else
      some ((-1 : Int32), c1.2)
set_option maxHeartbeats 4000000 in
set_option maxRecDepth 100000 in
theorem c_X12_freed (E : EX) {n : Nat} {σ : Sto} {ρ : Rho} (a0 : Nat) (h0 : Sh n a0 11) (a1 : Int32) (res : Int32 × Sto) (hM : MX12_freed σ ρ a0 a1 = some res) : CTi E yX12_freed cX12_freed 2 (some .int) 3 [.ref (eb E + a0), .int a1] n σ ρ res.1 res.2 ρ := by
  refine ct_i (by decide +kernel) rfl (Nat.le_of_ble_eq_true rfl) (fun X hE hml hC hR => ?_)
  subst hE
  show G X 0 0 n σ ρ 0 [(0, vr X a0), (1, .int a1)] []
  replace hC : Cx X cX12_freed RX12 3 := hC
  unfold MX12_freed at hM
  refine g_aload_n hC dX12_freed_0 rfl 0 rfl ?_
  refine g_iload_n hC dX12_freed_1 rfl 1 rfl ?_
  refine g_callVi (As := [.int a1]) (st' := []) (k := a0) (L' := 1) hC Y_X12_isPlace I_X12_isPlace k_1271 ⟨by decide, by decide⟩ h0 (ci := 11) (by decide) rfl dX12_freed_2 rfl rfl rfl (Nat.le_of_ble_eq_true rfl) ⟨Nat.zero_le _, Nat.zero_le _⟩ hM (fun c hc => c_X12_isPlace (xE X) a0 h0 a1 c hc) (fun c1 hM => ?_)
  refine g_if_eq (tgt := 29) hC dX12_freed_5 rfl (by decide) hM (fun hM => ?_) (fun hM => ?_)
  · refine g_iconst (v := -1) hC dX12_freed_29 rfl ic_m1 ?_
    obtain rfl := Option.some.inj hM
    exact g_reti hR dX12_freed_30 rfl
  · refine g_aload_n hC dX12_freed_8 rfl 0 rfl ?_
    refine g_iconst (v := 0) hC dX12_freed_9 rfl ic_0 ?_
    refine g_iload_n hC dX12_freed_10 rfl 1 rfl ?_
    refine g_callVi (As := [.int ((0 : Int32)), .int a1]) (st' := []) (k := a0) (L' := 0) hC Y_X12_markOf I_X12_markOf k_1275 ⟨by decide, by decide⟩ h0 (ci := 11) (by decide) rfl dX12_freed_11 rfl rfl rfl (Nat.le_of_ble_eq_true rfl) ⟨Nat.zero_le _, Nat.zero_le _⟩ hM (fun c hc => c_X12_markOf (xE X) a0 h0 ((0 : Int32)) a1 c hc) (fun c2 hM => ?_)
    refine g_iconst (v := -1) hC dX12_freed_14 rfl ic_m1 ?_
    refine g_icmp_ne (tgt := 29) hC dX12_freed_15 rfl (by decide) hM (fun hM => ?_) (fun hM => ?_)
    · refine g_iconst (v := -1) hC dX12_freed_29 rfl ic_m1 ?_
      obtain rfl := Option.some.inj hM
      exact g_reti hR dX12_freed_30 rfl
    · refine g_bipush (v := 6) hC dX12_freed_18 rfl ib_6 ?_
      refine g_aload_n hC dX12_freed_20 rfl 0 rfl ?_
      refine g_iload_n hC dX12_freed_21 rfl 1 rfl ?_
      refine g_callVi (As := [.int a1]) (st' := [.int ((6 : Int32))]) (k := a0) (L' := 2) hC Y_X12_rankWith I_X12_rankWith k_1259 ⟨by decide, by decide⟩ h0 (ci := 11) (by decide) rfl dX12_freed_22 rfl rfl rfl (Nat.le_of_ble_eq_true rfl) ⟨Nat.zero_le _, Nat.zero_le _⟩ hM (fun c hc => c_X12_rankWith (xE X) a0 h0 a1 c hc) (fun c3 hM => ?_)
      refine g_isub hC dX12_freed_25 rfl ?_
      refine g_goto (tgt := 30) hC dX12_freed_26 rfl (by decide) ?_
      obtain rfl := Option.some.inj hM
      exact g_reti hR dX12_freed_30 rfl
def BX12_useful_43 (ρ : Rho) (a0 : Nat) (rec : Sto → Int32 → Int32 → Int32 → Option (Int32 × Sto)) (σ : Sto) (v1 : Int32) (v3 : Int32) (t0 : Int32) (t1 : Int32) : Option (Int32 × Sto) :=
  bn ((t0 + t1)) fun y1 =>
  bn (v3 + (1 : Int32)) fun y2 =>
  rec σ v1 y1 y2
set_option maxHeartbeats 4000000 in
set_option maxRecDepth 100000 in
theorem bX12_useful_43 {X : CX} {n : Nat} {ρ : Rho} {res : Int32 × Sto} (hC : Cx X cX12_useful RX12 3) (hml : (xc X).maxLocals = 4) (hR : RtT (some .int) X cX12_useful n res.1 res.2 ρ) (a0 : Nat) (h0 : Sh n a0 11) (rec : Sto → Int32 → Int32 → Int32 → Option (Int32 × Sto)) (ih : ∀ (σ : Sto) (v1 : Int32) (v2 : Int32) (v3 : Int32), rec σ v1 v2 v3 = some res → G X 0 0 n σ ρ 10 [(0, vr X a0), (1, .int v1), (2, .int v2), (3, .int v3)] []) : ∀ (σ : Sto) (v1 : Int32) (v3 : Int32) (t0 : Int32) (t1 : Int32), BX12_useful_43 ρ a0 rec σ v1 v3 t0 t1 = some res → G X 0 0 n σ ρ 43 [(0, vr X a0), (1, .int v1), (3, .int v3)] [.int t1, .int t0] := by
  intro σ v1 v3 t0 t1 hM
  unfold BX12_useful_43 at hM
  refine g_iadd hC dX12_useful_43 rfl ?_
  refine g_istore_n hC (fun y1 => [(2, .int y1), (0, vr X a0), (1, .int v1), (3, .int v3)]) dX12_useful_44 rfl hM hml (by decide) (fun _ => rfl) (fun y1 hM => ?_)
  refine g_iinc (v := 1) hC (fun y2 => [(3, .int y2), (2, .int y1), (0, vr X a0), (1, .int v1)]) dX12_useful_45 rfl hM (j := 3) rfl ic_1 hml (by decide) (fun _ => rfl) (fun y2 hM => ?_)
  refine g_goto (tgt := 10) hC dX12_useful_48 rfl (by decide) ?_
  exact g_sub [2, 3, 1, 0] (ih _ _ _ _ hM) rfl
def BX12_useful_42 (ρ : Rho) (a0 : Nat) (rec : Sto → Int32 → Int32 → Int32 → Option (Int32 × Sto)) (σ : Sto) (v1 : Int32) (v3 : Int32) (t0 : Int32) : Option (Int32 × Sto) :=
  BX12_useful_43 ρ a0 rec σ v1 v3 t0 ((0 : Int32))
set_option maxHeartbeats 4000000 in
set_option maxRecDepth 100000 in
theorem bX12_useful_42 {X : CX} {n : Nat} {ρ : Rho} {res : Int32 × Sto} (hC : Cx X cX12_useful RX12 3) (hml : (xc X).maxLocals = 4) (hR : RtT (some .int) X cX12_useful n res.1 res.2 ρ) (a0 : Nat) (h0 : Sh n a0 11) (rec : Sto → Int32 → Int32 → Int32 → Option (Int32 × Sto)) (ih : ∀ (σ : Sto) (v1 : Int32) (v2 : Int32) (v3 : Int32), rec σ v1 v2 v3 = some res → G X 0 0 n σ ρ 10 [(0, vr X a0), (1, .int v1), (2, .int v2), (3, .int v3)] []) : ∀ (σ : Sto) (v1 : Int32) (v3 : Int32) (t0 : Int32), BX12_useful_42 ρ a0 rec σ v1 v3 t0 = some res → G X 0 0 n σ ρ 42 [(0, vr X a0), (1, .int v1), (3, .int v3)] [.int t0] := by
  intro σ v1 v3 t0 hM
  unfold BX12_useful_42 at hM
  refine g_iconst (v := 0) hC dX12_useful_42 rfl ic_0 ?_
  exact g_sub [0, 1, 2] ((bX12_useful_43 hC hml hR a0 h0 rec ih ) _ _ _ _ _ hM) rfl
def FX12_useful_10 (ρ : Rho) (a0 : Nat) (rec : Sto → Int32 → Int32 → Int32 → Option (Int32 × Sto)) (σ : Sto) (v1 : Int32) (v2 : Int32) (v3 : Int32) : Option (Int32 × Sto) :=
  Option.bind (MX12_places σ a0) fun c1 =>
  if c1 ≤ v3 then
    some (v2, σ)
  else
    Option.bind (MX12_markOf σ ρ a0 ((0 : Int32)) v3) fun c2 =>
    if c2 = (-1 : Int32) then
      Option.bind (MX12_rankWith σ ρ a0 v3) fun c3 =>
      if c3.1 ≤ v1 then
        BX12_useful_42 ρ a0 rec c3.2 v1 v3 v2
      else
        BX12_useful_43 ρ a0 rec c3.2 v1 v3 v2 ((1 : Int32))
    else
      BX12_useful_42 ρ a0 rec σ v1 v3 v2
set_option maxHeartbeats 4000000 in
set_option maxRecDepth 100000 in
theorem bX12_useful_10 {X : CX} {n : Nat} {ρ : Rho} {res : Int32 × Sto} (hC : Cx X cX12_useful RX12 3) (hml : (xc X).maxLocals = 4) (hR : RtT (some .int) X cX12_useful n res.1 res.2 ρ) (a0 : Nat) (h0 : Sh n a0 11) (fu : Nat) : ∀ (σ : Sto) (v1 : Int32) (v2 : Int32) (v3 : Int32), fixN (fun _ _ _ _ => none) (FX12_useful_10 ρ a0) fu σ v1 v2 v3 = some res → G X 0 0 n σ ρ 10 [(0, vr X a0), (1, .int v1), (2, .int v2), (3, .int v3)] [] := by
  refine fixN_ind (P := fun (f : Sto → Int32 → Int32 → Int32 → Option (Int32 × Sto)) => ∀ (σ : Sto) (v1 : Int32) (v2 : Int32) (v3 : Int32), f σ v1 v2 v3 = some res → G X 0 0 n σ ρ 10 [(0, vr X a0), (1, .int v1), (2, .int v2), (3, .int v3)] []) ?_ ?_ fu
  · intro σ v1 v2 v3 hM; cases hM
  · intro rec ih σ v1 v2 v3 hM
    unfold FX12_useful_10 at hM
    refine g_iload_n hC dX12_useful_10 rfl 3 rfl ?_
    refine g_aload_n hC dX12_useful_11 rfl 0 rfl ?_
    refine g_callVi (As := []) (st' := [.int v3]) (k := a0) (L' := 0) hC Y_X12_places I_X12_places k_1227 ⟨by decide, by decide⟩ h0 (ci := 11) (by decide) rfl dX12_useful_12 rfl rfl rfl (Nat.le_of_ble_eq_true rfl) ⟨Nat.zero_le _, Nat.zero_le _⟩ hM (fun c hc => c_X12_places (xE X) a0 h0 c hc) (fun c1 hM => ?_)
    refine g_icmp_ge (tgt := 51) hC dX12_useful_15 rfl (by decide) hM (fun hM => ?_) (fun hM => ?_)
    · refine g_iload_n hC dX12_useful_51 rfl 2 rfl ?_
      cases hM
      exact g_reti hR dX12_useful_52 rfl
    · refine g_iload_n hC dX12_useful_18 rfl 2 rfl ?_
      refine g_aload_n hC dX12_useful_19 rfl 0 rfl ?_
      refine g_iconst (v := 0) hC dX12_useful_20 rfl ic_0 ?_
      refine g_iload_n hC dX12_useful_21 rfl 3 rfl ?_
      refine g_callVi (As := [.int ((0 : Int32)), .int v3]) (st' := [.int v2]) (k := a0) (L' := 0) hC Y_X12_markOf I_X12_markOf k_1275 ⟨by decide, by decide⟩ h0 (ci := 11) (by decide) rfl dX12_useful_22 rfl rfl rfl (Nat.le_of_ble_eq_true rfl) ⟨Nat.zero_le _, Nat.zero_le _⟩ hM (fun c hc => c_X12_markOf (xE X) a0 h0 ((0 : Int32)) v3 c hc) (fun c2 hM => ?_)
      refine g_iconst (v := -1) hC dX12_useful_25 rfl ic_m1 ?_
      refine g_icmp_ne (tgt := 42) hC dX12_useful_26 rfl (by decide) hM (fun hM => ?_) (fun hM => ?_)
      · exact g_sub [0, 1, 3] ((bX12_useful_42 hC hml hR a0 h0 rec ih ) _ _ _ _ hM) rfl
      · refine g_aload_n hC dX12_useful_29 rfl 0 rfl ?_
        refine g_iload_n hC dX12_useful_30 rfl 3 rfl ?_
        refine g_callVi (As := [.int v3]) (st' := [.int v2]) (k := a0) (L' := 2) hC Y_X12_rankWith I_X12_rankWith k_1259 ⟨by decide, by decide⟩ h0 (ci := 11) (by decide) rfl dX12_useful_31 rfl rfl rfl (Nat.le_of_ble_eq_true rfl) ⟨Nat.zero_le _, Nat.zero_le _⟩ hM (fun c hc => c_X12_rankWith (xE X) a0 h0 v3 c hc) (fun c3 hM => ?_)
        refine g_iload_n hC dX12_useful_34 rfl 1 rfl ?_
        refine g_icmp_le (tgt := 42) hC dX12_useful_35 rfl (by decide) hM (fun hM => ?_) (fun hM => ?_)
        · exact g_sub [0, 1, 3] ((bX12_useful_42 hC hml hR a0 h0 rec ih ) _ _ _ _ hM) rfl
        · refine g_iconst (v := 1) hC dX12_useful_38 rfl ic_1 ?_
          refine g_goto (tgt := 43) hC dX12_useful_39 rfl (by decide) ?_
          exact g_sub [0, 1, 3] ((bX12_useful_43 hC hml hR a0 h0 rec ih ) _ _ _ _ _ hM) rfl
def MX12_useful (σ : Sto) (ρ : Rho) (a0 : Nat) : Option (Int32 × Sto) :=
  Option.bind (MX12_rankWith σ ρ a0 ((-1 : Int32))) fun c1 =>
  bn c1.1 fun y2 =>
  bn ((0 : Int32)) fun y3 =>
  bn ((0 : Int32)) fun y4 =>
  fixN (fun _ _ _ _ => none) (FX12_useful_10 ρ a0) FU c1.2 y2 y3 y4
set_option maxHeartbeats 4000000 in
set_option maxRecDepth 100000 in
theorem c_X12_useful (E : EX) {n : Nat} {σ : Sto} {ρ : Rho} (a0 : Nat) (h0 : Sh n a0 11) (res : Int32 × Sto) (hM : MX12_useful σ ρ a0 = some res) : CTi E yX12_useful cX12_useful 4 (some .int) 3 [.ref (eb E + a0)] n σ ρ res.1 res.2 ρ := by
  refine ct_i (by decide +kernel) rfl (Nat.le_of_ble_eq_true rfl) (fun X hE hml hC hR => ?_)
  subst hE
  show G X 0 0 n σ ρ 0 [(0, vr X a0)] []
  replace hC : Cx X cX12_useful RX12 3 := hC
  unfold MX12_useful at hM
  refine g_aload_n hC dX12_useful_0 rfl 0 rfl ?_
  refine g_iconst (v := -1) hC dX12_useful_1 rfl ic_m1 ?_
  refine g_callVi (As := [.int ((-1 : Int32))]) (st' := []) (k := a0) (L' := 2) hC Y_X12_rankWith I_X12_rankWith k_1259 ⟨by decide, by decide⟩ h0 (ci := 11) (by decide) rfl dX12_useful_2 rfl rfl rfl (Nat.le_of_ble_eq_true rfl) ⟨Nat.zero_le _, Nat.zero_le _⟩ hM (fun c hc => c_X12_rankWith (xE X) a0 h0 ((-1 : Int32)) c hc) (fun c1 hM => ?_)
  refine g_istore_n hC (fun y2 => [(1, .int y2), (0, vr X a0)]) dX12_useful_5 rfl hM hml (by decide) (fun _ => rfl) (fun y2 hM => ?_)
  refine g_iconst (v := 0) hC dX12_useful_6 rfl ic_0 ?_
  refine g_istore_n hC (fun y3 => [(2, .int y3), (1, .int y2), (0, vr X a0)]) dX12_useful_7 rfl hM hml (by decide) (fun _ => rfl) (fun y3 hM => ?_)
  refine g_iconst (v := 0) hC dX12_useful_8 rfl ic_0 ?_
  refine g_istore_n hC (fun y4 => [(3, .int y4), (2, .int y3), (1, .int y2), (0, vr X a0)]) dX12_useful_9 rfl hM hml (by decide) (fun _ => rfl) (fun y4 hM => ?_)
  exact g_sub [3, 2, 1, 0] ((bX12_useful_10 hC hml hR a0 h0  FU) _ _ _ _ hM) rfl

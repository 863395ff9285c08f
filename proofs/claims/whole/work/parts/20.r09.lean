def BX12_isPencil_45 (ρ : Rho) (a0 : Nat) (a1 : Int32) (a2 : Int32) (rec : Sto → Int32 → Option (Int32 × Sto)) (k63 : Sto → Option (Int32 × Sto)) (σ : Sto) (v3 : Int32) (t0 : Nat) (t1 : Int32) (t2 : Int32) : Option (Int32 × Sto) :=
  Option.bind (MX12_laysConic σ ρ t0 t1 t2) fun c1 =>
  Option.bind (MX12_isVoid c1 ρ a0) fun c2 =>
  if c2 = 0 then
    bn (v3 + (1 : Int32)) fun y3 =>
    rec c1 y3
  else
    zr ((0 : Int32)) (some ((0 : Int32), c1))
set_option maxHeartbeats 4000000 in
set_option maxRecDepth 100000 in
theorem bX12_isPencil_45 {X : CX} {n : Nat} {ρ : Rho} {res : Int32 × Sto} (hC : Cx X cX12_isPencil RX12 2) (hml : (xc X).maxLocals = 6) (hR : RtT (some .boolean) X cX12_isPencil n res.1 res.2 ρ) (a0 : Nat) (a1 : Int32) (a2 : Int32) (h0 : Sh n a0 11) (rec : Sto → Int32 → Option (Int32 × Sto)) (ih : ∀ (σ : Sto) (v3 : Int32), rec σ v3 = some res → G X 0 0 n σ ρ 29 [(0, vr X a0), (1, .int a1), (2, .int a2), (3, .int v3)] []) (k63 : Sto → Option (Int32 × Sto)) (hk63 : ∀ (σ : Sto), k63 σ = some res → G X 0 0 n σ ρ 63 [(0, vr X a0), (1, .int a1), (2, .int a2)] []) : ∀ (σ : Sto) (v3 : Int32) (t0 : Nat) (t1 : Int32) (t2 : Int32) (ht0 : Sh n t0 11), BX12_isPencil_45 ρ a0 a1 a2 rec k63 σ v3 t0 t1 t2 = some res → G X 0 0 n σ ρ 45 [(0, vr X a0), (1, .int a1), (2, .int a2), (3, .int v3)] [.int t2, .int t1, vr X t0] := by
  intro σ v3 t0 t1 t2 ht0 hM
  unfold BX12_isPencil_45 at hM
  refine g_callVv0 (As := [.int t1, .int t2]) (st' := []) (k := t0) (L' := 1) hC Y_X12_laysConic I_X12_laysConic k_1199 ⟨by decide, by decide⟩ ht0 (ci := 11) (by decide) rfl dX12_isPencil_45 rfl rfl rfl (Nat.le_of_ble_eq_true rfl) ⟨Nat.zero_le _, Nat.zero_le _⟩ hM (fun c hc => c_X12_laysConic (xE X) t0 ht0 t1 t2 c hc) (fun c1 hM => ?_)
  refine g_aload_n hC dX12_isPencil_48 rfl 0 rfl ?_
  refine g_callVi (As := []) (st' := []) (k := a0) (L' := 0) hC Y_X12_isVoid I_X12_isVoid k_1399 ⟨by decide, by decide⟩ h0 (ci := 11) (by decide) rfl dX12_isPencil_49 rfl rfl rfl (Nat.le_of_ble_eq_true rfl) ⟨Nat.zero_le _, Nat.zero_le _⟩ hM (fun c hc => c_X12_isVoid (xE X) a0 h0 c hc) (fun c2 hM => ?_)
  refine g_if_eq (tgt := 57) hC dX12_isPencil_52 rfl (by decide) hM (fun hM => ?_) (fun hM => ?_)
  · refine g_iinc (v := 1) hC (fun y3 => [(3, .int y3), (0, vr X a0), (1, .int a1), (2, .int a2)]) dX12_isPencil_57 rfl hM (j := 3) rfl ic_1 hml (by decide) (fun _ => rfl) (fun y3 hM => ?_)
    refine g_goto (tgt := 29) hC dX12_isPencil_60 rfl (by decide) ?_
    exact g_sub [1, 2, 3, 0] (ih _ _ hM) rfl
  · refine g_iconst (v := 0) hC dX12_isPencil_55 rfl ic_0 ?_
    exact g_retz hM dX12_isPencil_56 rfl (fun h => by cases h; exact hR)
def BX12_isPencil_134 (ρ : Rho) (a0 : Nat) (a1 : Int32) (a2 : Int32) (rec : Sto → Int32 → Int32 → Int32 → Option (Int32 × Sto)) (k142 : Sto → Int32 → Int32 → Option (Int32 × Sto)) (σ : Sto) (v3 : Int32) (v5 : Int32) (t0 : Int32) : Option (Int32 × Sto) :=
  bn t0 fun y1 =>
  bn (v5 + (1 : Int32)) fun y2 =>
  rec σ v3 y1 y2
set_option maxHeartbeats 4000000 in
set_option maxRecDepth 100000 in
theorem bX12_isPencil_134 {X : CX} {n : Nat} {ρ : Rho} {res : Int32 × Sto} (hC : Cx X cX12_isPencil RX12 2) (hml : (xc X).maxLocals = 6) (hR : RtT (some .boolean) X cX12_isPencil n res.1 res.2 ρ) (a0 : Nat) (a1 : Int32) (a2 : Int32) (h0 : Sh n a0 11) (rec : Sto → Int32 → Int32 → Int32 → Option (Int32 × Sto)) (ih : ∀ (σ : Sto) (v3 : Int32) (v4 : Int32) (v5 : Int32), rec σ v3 v4 v5 = some res → G X 0 0 n σ ρ 79 [(0, vr X a0), (1, .int a1), (2, .int a2), (3, .int v3), (4, .int v4), (5, .int v5)] []) (k142 : Sto → Int32 → Int32 → Option (Int32 × Sto)) (hk142 : ∀ (σ : Sto) (v3 : Int32) (v4 : Int32), k142 σ v3 v4 = some res → G X 0 0 n σ ρ 142 [(0, vr X a0), (1, .int a1), (2, .int a2), (3, .int v3), (4, .int v4)] []) : ∀ (σ : Sto) (v3 : Int32) (v5 : Int32) (t0 : Int32), BX12_isPencil_134 ρ a0 a1 a2 rec k142 σ v3 v5 t0 = some res → G X 0 0 n σ ρ 134 [(0, vr X a0), (1, .int a1), (2, .int a2), (3, .int v3), (5, .int v5)] [.int t0] := by
  intro σ v3 v5 t0 hM
  unfold BX12_isPencil_134 at hM
  refine g_istore hC (fun y1 => [(4, .int y1), (0, vr X a0), (1, .int a1), (2, .int a2), (3, .int v3), (5, .int v5)]) dX12_isPencil_134 rfl hM hml (by decide) (fun _ => rfl) (fun y1 hM => ?_)
  refine g_iinc (v := 1) hC (fun y2 => [(5, .int y2), (4, .int y1), (0, vr X a0), (1, .int a1), (2, .int a2), (3, .int v3)]) dX12_isPencil_136 rfl hM (j := 5) rfl ic_1 hml (by decide) (fun _ => rfl) (fun y2 hM => ?_)
  refine g_goto (tgt := 79) hC dX12_isPencil_139 rfl (by decide) ?_
  exact g_sub [2, 3, 4, 5, 1, 0] (ih _ _ _ _ hM) rfl
def BX12_isPencil_133 (ρ : Rho) (a0 : Nat) (a1 : Int32) (a2 : Int32) (rec : Sto → Int32 → Int32 → Int32 → Option (Int32 × Sto)) (k142 : Sto → Int32 → Int32 → Option (Int32 × Sto)) (σ : Sto) (v3 : Int32) (v5 : Int32) : Option (Int32 × Sto) :=
  BX12_isPencil_134 ρ a0 a1 a2 rec k142 σ v3 v5 ((0 : Int32))
set_option maxHeartbeats 4000000 in
set_option maxRecDepth 100000 in
theorem bX12_isPencil_133 {X : CX} {n : Nat} {ρ : Rho} {res : Int32 × Sto} (hC : Cx X cX12_isPencil RX12 2) (hml : (xc X).maxLocals = 6) (hR : RtT (some .boolean) X cX12_isPencil n res.1 res.2 ρ) (a0 : Nat) (a1 : Int32) (a2 : Int32) (h0 : Sh n a0 11) (rec : Sto → Int32 → Int32 → Int32 → Option (Int32 × Sto)) (ih : ∀ (σ : Sto) (v3 : Int32) (v4 : Int32) (v5 : Int32), rec σ v3 v4 v5 = some res → G X 0 0 n σ ρ 79 [(0, vr X a0), (1, .int a1), (2, .int a2), (3, .int v3), (4, .int v4), (5, .int v5)] []) (k142 : Sto → Int32 → Int32 → Option (Int32 × Sto)) (hk142 : ∀ (σ : Sto) (v3 : Int32) (v4 : Int32), k142 σ v3 v4 = some res → G X 0 0 n σ ρ 142 [(0, vr X a0), (1, .int a1), (2, .int a2), (3, .int v3), (4, .int v4)] []) : ∀ (σ : Sto) (v3 : Int32) (v5 : Int32), BX12_isPencil_133 ρ a0 a1 a2 rec k142 σ v3 v5 = some res → G X 0 0 n σ ρ 133 [(0, vr X a0), (1, .int a1), (2, .int a2), (3, .int v3), (5, .int v5)] [] := by
  intro σ v3 v5 hM
  unfold BX12_isPencil_133 at hM
  refine g_iconst (v := 0) hC dX12_isPencil_133 rfl ic_0 ?_
  exact g_sub [0, 1, 2, 3, 4] ((bX12_isPencil_134 hC hml hR a0 a1 a2 h0 rec ih k142 hk142) _ _ _ _ hM) rfl
def BX12_isPencil_142 (ρ : Rho) (a0 : Nat) (a1 : Int32) (a2 : Int32) (rec : Sto → Int32 → Option (Int32 × Sto)) (σ : Sto) (v3 : Int32) (v4 : Int32) : Option (Int32 × Sto) :=
  if v4 = 0 then
    bn (v3 + (1 : Int32)) fun y1 =>
    rec σ y1
  else
    zr ((0 : Int32)) (some ((0 : Int32), σ))
set_option maxHeartbeats 4000000 in
set_option maxRecDepth 100000 in
theorem bX12_isPencil_142 {X : CX} {n : Nat} {ρ : Rho} {res : Int32 × Sto} (hC : Cx X cX12_isPencil RX12 2) (hml : (xc X).maxLocals = 6) (hR : RtT (some .boolean) X cX12_isPencil n res.1 res.2 ρ) (a0 : Nat) (a1 : Int32) (a2 : Int32) (h0 : Sh n a0 11) (rec : Sto → Int32 → Option (Int32 × Sto)) (ih : ∀ (σ : Sto) (v3 : Int32), rec σ v3 = some res → G X 0 0 n σ ρ 65 [(0, vr X a0), (1, .int a1), (2, .int a2), (3, .int v3)] []) : ∀ (σ : Sto) (v3 : Int32) (v4 : Int32), BX12_isPencil_142 ρ a0 a1 a2 rec σ v3 v4 = some res → G X 0 0 n σ ρ 142 [(0, vr X a0), (1, .int a1), (2, .int a2), (3, .int v3), (4, .int v4)] [] := by
  intro σ v3 v4 hM
  unfold BX12_isPencil_142 at hM
  refine g_iload hC dX12_isPencil_142 rfl 4 rfl ?_
  refine g_if_eq (tgt := 149) hC dX12_isPencil_144 rfl (by decide) hM (fun hM => ?_) (fun hM => ?_)
  · refine g_iinc (v := 1) hC (fun y1 => [(3, .int y1), (0, vr X a0), (1, .int a1), (2, .int a2), (4, .int v4)]) dX12_isPencil_149 rfl hM (j := 3) rfl ic_1 hml (by decide) (fun _ => rfl) (fun y1 hM => ?_)
    refine g_goto (tgt := 65) hC dX12_isPencil_152 rfl (by decide) ?_
    exact g_sub [1, 2, 3, 0] (ih _ _ hM) rfl
  · refine g_iconst (v := 0) hC dX12_isPencil_147 rfl ic_0 ?_
    exact g_retz hM dX12_isPencil_148 rfl (fun h => by cases h; exact hR)
def FX12_isPencil_79 (ρ : Rho) (a0 : Nat) (a1 : Int32) (a2 : Int32) (k142 : Sto → Int32 → Int32 → Option (Int32 × Sto)) (rec : Sto → Int32 → Int32 → Int32 → Option (Int32 × Sto)) (σ : Sto) (v3 : Int32) (v4 : Int32) (v5 : Int32) : Option (Int32 × Sto) :=
  if (6 : Int32) ≤ v5 then
    k142 σ v3 v4
  else
    if v4 = 0 then
      BX12_isPencil_133 ρ a0 a1 a2 rec k142 σ v3 v5
    else
      Option.bind (ρ a0 0) fun j1 =>
      Option.bind (ag σ j1 ((((6 : Int32) * a1) + v5))) fun x2 =>
      Option.bind (MX12_rest σ a0 x2) fun c3 =>
      Option.bind (ρ a0 0) fun j4 =>
      Option.bind (ag σ j4 ((((6 : Int32) * a2) + v5))) fun x5 =>
      Option.bind (MX12_rest σ a0 (((v3 * c3) - x5))) fun c6 =>
      if c6 = 0 then
        BX12_isPencil_134 ρ a0 a1 a2 rec k142 σ v3 v5 ((1 : Int32))
      else
        BX12_isPencil_133 ρ a0 a1 a2 rec k142 σ v3 v5
set_option maxHeartbeats 4000000 in
set_option maxRecDepth 100000 in
theorem bX12_isPencil_79 {X : CX} {n : Nat} {ρ : Rho} {res : Int32 × Sto} (hC : Cx X cX12_isPencil RX12 2) (hml : (xc X).maxLocals = 6) (hR : RtT (some .boolean) X cX12_isPencil n res.1 res.2 ρ) (a0 : Nat) (a1 : Int32) (a2 : Int32) (h0 : Sh n a0 11) (k142 : Sto → Int32 → Int32 → Option (Int32 × Sto)) (hk142 : ∀ (σ : Sto) (v3 : Int32) (v4 : Int32), k142 σ v3 v4 = some res → G X 0 0 n σ ρ 142 [(0, vr X a0), (1, .int a1), (2, .int a2), (3, .int v3), (4, .int v4)] []) (fu : Nat) : ∀ (σ : Sto) (v3 : Int32) (v4 : Int32) (v5 : Int32), fixN (fun _ _ _ _ => none) (FX12_isPencil_79 ρ a0 a1 a2 k142) fu σ v3 v4 v5 = some res → G X 0 0 n σ ρ 79 [(0, vr X a0), (1, .int a1), (2, .int a2), (3, .int v3), (4, .int v4), (5, .int v5)] [] := by
  refine fixN_ind (P := fun (f : Sto → Int32 → Int32 → Int32 → Option (Int32 × Sto)) => ∀ (σ : Sto) (v3 : Int32) (v4 : Int32) (v5 : Int32), f σ v3 v4 v5 = some res → G X 0 0 n σ ρ 79 [(0, vr X a0), (1, .int a1), (2, .int a2), (3, .int v3), (4, .int v4), (5, .int v5)] []) ?_ ?_ fu
  · intro σ v3 v4 v5 hM; cases hM
  · intro rec ih σ v3 v4 v5 hM
    unfold FX12_isPencil_79 at hM
    refine g_iload hC dX12_isPencil_79 rfl 5 rfl ?_
    refine g_bipush (v := 6) hC dX12_isPencil_81 rfl ib_6 ?_
    refine g_icmp_ge (tgt := 142) hC dX12_isPencil_83 rfl (by decide) hM (fun hM => ?_) (fun hM => ?_)
    · exact g_sub [0, 1, 2, 3, 4] (hk142 _ _ _ hM) rfl
    · refine g_iload hC dX12_isPencil_86 rfl 4 rfl ?_
      refine g_if_eq (tgt := 133) hC dX12_isPencil_88 rfl (by decide) hM (fun hM => ?_) (fun hM => ?_)
      · exact g_sub [0, 1, 2, 3, 5] ((bX12_isPencil_133 hC hml hR a0 a1 a2 h0 rec ih k142 hk142) _ _ _ hM) rfl
      · refine g_aload_n hC dX12_isPencil_91 rfl 0 rfl ?_
        refine g_iload_n hC dX12_isPencil_92 rfl 3 rfl ?_
        refine g_aload_n hC dX12_isPencil_93 rfl 0 rfl ?_
        refine g_aload_n hC dX12_isPencil_94 rfl 0 rfl ?_
        refine fg_11_0 hC h0 k_1082 dX12_isPencil_95 rfl hM (fun j1 hj1 hM => ?_)
        refine g_bipush (v := 6) hC dX12_isPencil_98 rfl ib_6 ?_
        refine g_iload_n hC dX12_isPencil_100 rfl 1 rfl ?_
        refine g_imul hC dX12_isPencil_101 rfl ?_
        refine g_iload hC dX12_isPencil_102 rfl 5 rfl ?_
        refine g_iadd hC dX12_isPencil_104 rfl ?_
        refine g_iald hC hj1 dX12_isPencil_105 rfl hM (fun x2 hM => ?_)
        refine g_callVi (As := [.int x2]) (st' := [.int v3, vr X a0]) (k := a0) (L' := 0) hC Y_X12_rest I_X12_rest k_1203 ⟨by decide, by decide⟩ h0 (ci := 11) (by decide) rfl dX12_isPencil_106 rfl rfl rfl (Nat.le_of_ble_eq_true rfl) ⟨Nat.zero_le _, Nat.zero_le _⟩ hM (fun c hc => c_X12_rest (xE X) a0 h0 x2 c hc) (fun c3 hM => ?_)
        refine g_imul hC dX12_isPencil_109 rfl ?_
        refine g_aload_n hC dX12_isPencil_110 rfl 0 rfl ?_
        refine fg_11_0 hC h0 k_1082 dX12_isPencil_111 rfl hM (fun j4 hj4 hM => ?_)
        refine g_bipush (v := 6) hC dX12_isPencil_114 rfl ib_6 ?_
        refine g_iload_n hC dX12_isPencil_116 rfl 2 rfl ?_
        refine g_imul hC dX12_isPencil_117 rfl ?_
        refine g_iload hC dX12_isPencil_118 rfl 5 rfl ?_
        refine g_iadd hC dX12_isPencil_120 rfl ?_
        refine g_iald hC hj4 dX12_isPencil_121 rfl hM (fun x5 hM => ?_)
        refine g_isub hC dX12_isPencil_122 rfl ?_
        refine g_callVi (As := [.int (((v3 * c3) - x5))]) (st' := []) (k := a0) (L' := 0) hC Y_X12_rest I_X12_rest k_1203 ⟨by decide, by decide⟩ h0 (ci := 11) (by decide) rfl dX12_isPencil_123 rfl rfl rfl (Nat.le_of_ble_eq_true rfl) ⟨Nat.zero_le _, Nat.zero_le _⟩ hM (fun c hc => c_X12_rest (xE X) a0 h0 (((v3 * c3) - x5)) c hc) (fun c6 hM => ?_)
        refine g_if_ne (tgt := 133) hC dX12_isPencil_126 rfl (by decide) hM (fun hM => ?_) (fun hM => ?_)
        · exact g_sub [0, 1, 2, 3, 5] ((bX12_isPencil_133 hC hml hR a0 a1 a2 h0 rec ih k142 hk142) _ _ _ hM) rfl
        · refine g_iconst (v := 1) hC dX12_isPencil_129 rfl ic_1 ?_
          refine g_goto (tgt := 134) hC dX12_isPencil_130 rfl (by decide) ?_
          exact g_sub [0, 1, 2, 3, 5] ((bX12_isPencil_134 hC hml hR a0 a1 a2 h0 rec ih k142 hk142) _ _ _ _ hM) rfl
def FX12_isPencil_65 (ρ : Rho) (a0 : Nat) (a1 : Int32) (a2 : Int32) (rec : Sto → Int32 → Option (Int32 × Sto)) (σ : Sto) (v3 : Int32) : Option (Int32 × Sto) :=
  if (σ a0 7) ≤ v3 then
    zr ((1 : Int32)) (some ((1 : Int32), σ))
  else
    bn ((1 : Int32)) fun y1 =>
    bn ((0 : Int32)) fun y2 =>
    fixN (fun _ _ _ _ => none) (FX12_isPencil_79 ρ a0 a1 a2 (BX12_isPencil_142 ρ a0 a1 a2 rec)) FU σ v3 y1 y2
set_option maxHeartbeats 4000000 in
set_option maxRecDepth 100000 in
theorem bX12_isPencil_65 {X : CX} {n : Nat} {ρ : Rho} {res : Int32 × Sto} (hC : Cx X cX12_isPencil RX12 2) (hml : (xc X).maxLocals = 6) (hR : RtT (some .boolean) X cX12_isPencil n res.1 res.2 ρ) (a0 : Nat) (a1 : Int32) (a2 : Int32) (h0 : Sh n a0 11) (fu : Nat) : ∀ (σ : Sto) (v3 : Int32), fixN (fun _ _ => none) (FX12_isPencil_65 ρ a0 a1 a2) fu σ v3 = some res → G X 0 0 n σ ρ 65 [(0, vr X a0), (1, .int a1), (2, .int a2), (3, .int v3)] [] := by
  refine fixN_ind (P := fun (f : Sto → Int32 → Option (Int32 × Sto)) => ∀ (σ : Sto) (v3 : Int32), f σ v3 = some res → G X 0 0 n σ ρ 65 [(0, vr X a0), (1, .int a1), (2, .int a2), (3, .int v3)] []) ?_ ?_ fu
  · intro σ v3 hM; cases hM
  · intro rec ih σ v3 hM
    unfold FX12_isPencil_65 at hM
    refine g_iload_n hC dX12_isPencil_65 rfl 3 rfl ?_
    refine g_aload_n hC dX12_isPencil_66 rfl 0 rfl ?_
    refine fg_11_7 hC h0 k_1089 dX12_isPencil_67 rfl ?_
    refine g_icmp_ge (tgt := 155) hC dX12_isPencil_70 rfl (by decide) hM (fun hM => ?_) (fun hM => ?_)
    · refine g_iconst (v := 1) hC dX12_isPencil_155 rfl ic_1 ?_
      exact g_retz hM dX12_isPencil_156 rfl (fun h => by cases h; exact hR)
    · refine g_iconst (v := 1) hC dX12_isPencil_73 rfl ic_1 ?_
      refine g_istore hC (fun y1 => [(4, .int y1), (0, vr X a0), (1, .int a1), (2, .int a2), (3, .int v3)]) dX12_isPencil_74 rfl hM hml (by decide) (fun _ => rfl) (fun y1 hM => ?_)
      refine g_iconst (v := 0) hC dX12_isPencil_76 rfl ic_0 ?_
      refine g_istore hC (fun y2 => [(5, .int y2), (4, .int y1), (0, vr X a0), (1, .int a1), (2, .int a2), (3, .int v3)]) dX12_isPencil_77 rfl hM hml (by decide) (fun _ => rfl) (fun y2 hM => ?_)
      exact g_sub [2, 3, 4, 5, 1, 0] ((bX12_isPencil_79 hC hml hR a0 a1 a2 h0 (BX12_isPencil_142 ρ a0 a1 a2 rec) (bX12_isPencil_142 hC hml hR a0 a1 a2 h0 rec ih ) FU) _ _ _ _ hM) rfl
def BX12_isPencil_63 (ρ : Rho) (a0 : Nat) (a1 : Int32) (a2 : Int32) (σ : Sto) : Option (Int32 × Sto) :=
  bn ((1 : Int32)) fun y1 =>
  fixN (fun _ _ => none) (FX12_isPencil_65 ρ a0 a1 a2) FU σ y1
set_option maxHeartbeats 4000000 in
set_option maxRecDepth 100000 in
theorem bX12_isPencil_63 {X : CX} {n : Nat} {ρ : Rho} {res : Int32 × Sto} (hC : Cx X cX12_isPencil RX12 2) (hml : (xc X).maxLocals = 6) (hR : RtT (some .boolean) X cX12_isPencil n res.1 res.2 ρ) (a0 : Nat) (a1 : Int32) (a2 : Int32) (h0 : Sh n a0 11) : ∀ (σ : Sto), BX12_isPencil_63 ρ a0 a1 a2 σ = some res → G X 0 0 n σ ρ 63 [(0, vr X a0), (1, .int a1), (2, .int a2)] [] := by
  intro σ hM
  unfold BX12_isPencil_63 at hM
  refine g_iconst (v := 1) hC dX12_isPencil_63 rfl ic_1 ?_
  refine g_istore_n hC (fun y1 => [(3, .int y1), (0, vr X a0), (1, .int a1), (2, .int a2)]) dX12_isPencil_64 rfl hM hml (by decide) (fun _ => rfl) (fun y1 hM => ?_)
  exact g_sub [1, 2, 3, 0] ((bX12_isPencil_65 hC hml hR a0 a1 a2 h0  FU) _ _ hM) rfl
def FX12_isPencil_29 (ρ : Rho) (a0 : Nat) (a1 : Int32) (a2 : Int32) (k63 : Sto → Option (Int32 × Sto)) (rec : Sto → Int32 → Option (Int32 × Sto)) (σ : Sto) (v3 : Int32) : Option (Int32 × Sto) :=
  if (2 : Int32) ≤ v3 then
    k63 σ
  else
    if v3 = 0 then
      BX12_isPencil_45 ρ a0 a1 a2 rec k63 σ v3 a0 ((0 : Int32)) a1
    else
      BX12_isPencil_45 ρ a0 a1 a2 rec k63 σ v3 a0 ((0 : Int32)) a2
set_option maxHeartbeats 4000000 in
set_option maxRecDepth 100000 in
theorem bX12_isPencil_29 {X : CX} {n : Nat} {ρ : Rho} {res : Int32 × Sto} (hC : Cx X cX12_isPencil RX12 2) (hml : (xc X).maxLocals = 6) (hR : RtT (some .boolean) X cX12_isPencil n res.1 res.2 ρ) (a0 : Nat) (a1 : Int32) (a2 : Int32) (h0 : Sh n a0 11) (k63 : Sto → Option (Int32 × Sto)) (hk63 : ∀ (σ : Sto), k63 σ = some res → G X 0 0 n σ ρ 63 [(0, vr X a0), (1, .int a1), (2, .int a2)] []) (fu : Nat) : ∀ (σ : Sto) (v3 : Int32), fixN (fun _ _ => none) (FX12_isPencil_29 ρ a0 a1 a2 k63) fu σ v3 = some res → G X 0 0 n σ ρ 29 [(0, vr X a0), (1, .int a1), (2, .int a2), (3, .int v3)] [] := by
  refine fixN_ind (P := fun (f : Sto → Int32 → Option (Int32 × Sto)) => ∀ (σ : Sto) (v3 : Int32), f σ v3 = some res → G X 0 0 n σ ρ 29 [(0, vr X a0), (1, .int a1), (2, .int a2), (3, .int v3)] []) ?_ ?_ fu
  · intro σ v3 hM; cases hM
  · intro rec ih σ v3 hM
    unfold FX12_isPencil_29 at hM
    refine g_iload_n hC dX12_isPencil_29 rfl 3 rfl ?_
    refine g_iconst (v := 2) hC dX12_isPencil_30 rfl ic_2 ?_
    refine g_icmp_ge (tgt := 63) hC dX12_isPencil_31 rfl (by decide) hM (fun hM => ?_) (fun hM => ?_)
    · exact g_sub [0, 1, 2] (hk63 _ hM) rfl
    · refine g_aload_n hC dX12_isPencil_34 rfl 0 rfl ?_
      refine g_iconst (v := 0) hC dX12_isPencil_35 rfl ic_0 ?_
      refine g_iload_n hC dX12_isPencil_36 rfl 3 rfl ?_
      refine g_if_ne (tgt := 44) hC dX12_isPencil_37 rfl (by decide) hM (fun hM => ?_) (fun hM => ?_)
      · refine g_iload_n hC dX12_isPencil_44 rfl 2 rfl ?_
        exact g_sub [0, 1, 2, 3] ((bX12_isPencil_45 hC hml hR a0 a1 a2 h0 rec ih k63 hk63) _ _ _ _ _ h0 hM) rfl
      · refine g_iload_n hC dX12_isPencil_40 rfl 1 rfl ?_
        refine g_goto (tgt := 45) hC dX12_isPencil_41 rfl (by decide) ?_
        exact g_sub [0, 1, 2, 3] ((bX12_isPencil_45 hC hml hR a0 a1 a2 h0 rec ih k63 hk63) _ _ _ _ _ h0 hM) rfl
def MX12_isPencil (σ : Sto) (ρ : Rho) (a0 : Nat) (a1 : Int32) (a2 : Int32) : Option (Int32 × Sto) :=
  Option.bind (MX12_isConic a1) fun c1 =>
  if c1 = 0 then
    zr ((0 : Int32)) (some ((0 : Int32), σ))
  else
    Option.bind (MX12_isConic a2) fun c2 =>
    if c2 = 0 then
      zr ((0 : Int32)) (some ((0 : Int32), σ))
    else
      Option.bind (ρ a0 0) fun j3 =>
      Option.bind (ag σ j3 ((36 : Int32))) fun x4 =>
      bn (su σ a0 7 x4) fun σ5 =>
      bn ((0 : Int32)) fun y6 =>
      fixN (fun _ _ => none) (FX12_isPencil_29 ρ a0 a1 a2 (BX12_isPencil_63 ρ a0 a1 a2)) FU σ5 y6
set_option maxHeartbeats 4000000 in
set_option maxRecDepth 100000 in
theorem c_X12_isPencil (E : EX) {n : Nat} {σ : Sto} {ρ : Rho} (a0 : Nat) (h0 : Sh n a0 11) (a1 : Int32) (a2 : Int32) (res : Int32 × Sto) (hM : MX12_isPencil σ ρ a0 a1 a2 = some res) : CTi E yX12_isPencil cX12_isPencil 6 (some .boolean) 2 [.ref (eb E + a0), .int a1, .int a2] n σ ρ res.1 res.2 ρ := by
  refine ct_i (by decide +kernel) rfl (Nat.le_of_ble_eq_true rfl) (fun X hE hml hC hR => ?_)
  subst hE
  show G X 0 0 n σ ρ 0 [(0, vr X a0), (1, .int a1), (2, .int a2)] []
  replace hC : Cx X cX12_isPencil RX12 2 := hC
  unfold MX12_isPencil at hM
  refine g_iload_n hC dX12_isPencil_0 rfl 1 rfl ?_
  refine g_callSi (As := [.int a1]) (st' := []) (L' := 1) hC Y_X12_isConic k_1167 k_1166 ⟨by decide, by decide⟩ dX12_isPencil_1 rfl rfl rfl (Nat.le_of_ble_eq_true rfl) ⟨Nat.zero_le _, Nat.zero_le _⟩ hM (fun c hc => c_X12_isConic (xE X) a1 c hc) (fun c1 hM => ?_)
  refine g_if_eq (tgt := 14) hC dX12_isPencil_4 rfl (by decide) hM (fun hM => ?_) (fun hM => ?_)
  · refine g_iconst (v := 0) hC dX12_isPencil_14 rfl ic_0 ?_
    exact g_retz hM dX12_isPencil_15 rfl (fun h => by cases h; exact hR)
  · refine g_iload_n hC dX12_isPencil_7 rfl 2 rfl ?_
    refine g_callSi (As := [.int a2]) (st' := []) (L' := 1) hC Y_X12_isConic k_1167 k_1166 ⟨by decide, by decide⟩ dX12_isPencil_8 rfl rfl rfl (Nat.le_of_ble_eq_true rfl) ⟨Nat.zero_le _, Nat.zero_le _⟩ hM (fun c hc => c_X12_isConic (xE X) a2 c hc) (fun c2 hM => ?_)
    refine g_if_ne (tgt := 16) hC dX12_isPencil_11 rfl (by decide) hM (fun hM => ?_) (fun hM => ?_)
    · refine g_aload_n hC dX12_isPencil_16 rfl 0 rfl ?_
      refine g_aload_n hC dX12_isPencil_17 rfl 0 rfl ?_
      refine fg_11_0 hC h0 k_1082 dX12_isPencil_18 rfl hM (fun j3 hj3 hM => ?_)
      refine g_bipush (v := 36) hC dX12_isPencil_21 rfl ib_36 ?_
      refine g_iald hC hj3 dX12_isPencil_23 rfl hM (fun x4 hM => ?_)
      refine fp_11_7 hC h0 k_1089 dX12_isPencil_24 rfl hM (fun σ5 hM => ?_)
      refine g_iconst (v := 0) hC dX12_isPencil_27 rfl ic_0 ?_
      refine g_istore_n hC (fun y6 => [(3, .int y6), (0, vr X a0), (1, .int a1), (2, .int a2)]) dX12_isPencil_28 rfl hM hml (by decide) (fun _ => rfl) (fun y6 hM => ?_)
      exact g_sub [1, 2, 3, 0] ((bX12_isPencil_29 hC hml hR a0 a1 a2 h0 (BX12_isPencil_63 ρ a0 a1 a2) (bX12_isPencil_63 hC hml hR a0 a1 a2 h0 ) FU) _ _ hM) rfl
    · refine g_iconst (v := 0) hC dX12_isPencil_14 rfl ic_0 ?_
      exact g_retz hM dX12_isPencil_15 rfl (fun h => by cases h; exact hR)
def BX12_laysMember_77 (ρ : Rho) (a0 : Nat) (a1 : Int32) (a2 : Int32) (a3 : Int32) (rec : Sto → Int32 → Option (Sto)) (σ : Sto) (v4 : Int32) (t0 : Nat) (t1 : Int32) (t2 : Int32) : Option (Sto) :=
  Option.bind (ap σ t0 t1 t2) fun σ1 =>
  bn (v4 + (1 : Int32)) fun y2 =>
  rec σ1 y2
set_option maxHeartbeats 4000000 in
set_option maxRecDepth 100000 in
theorem bX12_laysMember_77 {X : CX} {n : Nat} {ρ : Rho} {res : Sto} (hC : Cx X cX12_laysMember RX12 1) (hml : (xc X).maxLocals = 7) (hR : RtV X cX12_laysMember 0 0 n res ρ) (a0 : Nat) (a1 : Int32) (a2 : Int32) (a3 : Int32) (h0 : Sh n a0 11) (rec : Sto → Int32 → Option (Sto)) (ih : ∀ (σ : Sto) (v4 : Int32), rec σ v4 = some res → G X 0 0 n σ ρ 3 [(0, vr X a0), (1, .int a1), (2, .int a2), (3, .int a3), (4, .int v4)] []) : ∀ (σ : Sto) (v4 : Int32) (t0 : Nat) (t1 : Int32) (t2 : Int32) (ht0 : Sh n t0 20), BX12_laysMember_77 ρ a0 a1 a2 a3 rec σ v4 t0 t1 t2 = some res → G X 0 0 n σ ρ 77 [(0, vr X a0), (1, .int a1), (2, .int a2), (3, .int a3), (4, .int v4)] [.int t2, .int t1, vr X t0] := by
  intro σ v4 t0 t1 t2 ht0 hM
  unfold BX12_laysMember_77 at hM
  refine g_iast hC ht0 dX12_laysMember_77 rfl hM (fun σ1 hM => ?_)
  refine g_iinc (v := 1) hC (fun y2 => [(4, .int y2), (0, vr X a0), (1, .int a1), (2, .int a2), (3, .int a3)]) dX12_laysMember_78 rfl hM (j := 4) rfl ic_1 hml (by decide) (fun _ => rfl) (fun y2 hM => ?_)
  refine g_goto (tgt := 3) hC dX12_laysMember_81 rfl (by decide) ?_
  exact g_sub [1, 2, 3, 4, 0] (ih _ _ hM) rfl
def FX12_laysMember_3 (ρ : Rho) (a0 : Nat) (a1 : Int32) (a2 : Int32) (a3 : Int32) (rec : Sto → Int32 → Option (Sto)) (σ : Sto) (v4 : Int32) : Option (Sto) :=
  if (6 : Int32) ≤ v4 then
    some σ
  else
    Option.bind (ρ a0 0) fun j1 =>
    Option.bind (ag σ j1 ((((6 : Int32) * a1) + v4))) fun x2 =>
    Option.bind (MX12_rest σ a0 x2) fun c3 =>
    bn c3 fun y4 =>
    Option.bind (ρ a0 0) fun j5 =>
    Option.bind (ag σ j5 ((((6 : Int32) * a2) + v4))) fun x6 =>
    Option.bind (MX12_rest σ a0 x6) fun c7 =>
    bn c7 fun y8 =>
    Option.bind (ρ a0 11) fun j9 =>
    if a3 = (σ a0 7) then
      BX12_laysMember_77 ρ a0 a1 a2 a3 rec σ v4 j9 v4 y4
    else
      Option.bind (rmi (((y4 * a3) + y8)) ((σ a0 7))) fun z10 =>
      BX12_laysMember_77 ρ a0 a1 a2 a3 rec σ v4 j9 v4 z10
set_option maxHeartbeats 4000000 in
set_option maxRecDepth 100000 in
theorem bX12_laysMember_3 {X : CX} {n : Nat} {ρ : Rho} {res : Sto} (hC : Cx X cX12_laysMember RX12 1) (hml : (xc X).maxLocals = 7) (hR : RtV X cX12_laysMember 0 0 n res ρ) (a0 : Nat) (a1 : Int32) (a2 : Int32) (a3 : Int32) (h0 : Sh n a0 11) (fu : Nat) : ∀ (σ : Sto) (v4 : Int32), fixN (fun _ _ => none) (FX12_laysMember_3 ρ a0 a1 a2 a3) fu σ v4 = some res → G X 0 0 n σ ρ 3 [(0, vr X a0), (1, .int a1), (2, .int a2), (3, .int a3), (4, .int v4)] [] := by
  refine fixN_ind (P := fun (f : Sto → Int32 → Option (Sto)) => ∀ (σ : Sto) (v4 : Int32), f σ v4 = some res → G X 0 0 n σ ρ 3 [(0, vr X a0), (1, .int a1), (2, .int a2), (3, .int a3), (4, .int v4)] []) ?_ ?_ fu
  · intro σ v4 hM; cases hM
  · intro rec ih σ v4 hM
    unfold FX12_laysMember_3 at hM
    refine g_iload hC dX12_laysMember_3 rfl 4 rfl ?_
    refine g_bipush (v := 6) hC dX12_laysMember_5 rfl ib_6 ?_
    refine g_icmp_ge (tgt := 84) hC dX12_laysMember_7 rfl (by decide) hM (fun hM => ?_) (fun hM => ?_)
    · cases hM
      exact g_retv hR dX12_laysMember_84 rfl
    · refine g_aload_n hC dX12_laysMember_10 rfl 0 rfl ?_
      refine g_aload_n hC dX12_laysMember_11 rfl 0 rfl ?_
      refine fg_11_0 hC h0 k_1082 dX12_laysMember_12 rfl hM (fun j1 hj1 hM => ?_)
      refine g_bipush (v := 6) hC dX12_laysMember_15 rfl ib_6 ?_
      refine g_iload_n hC dX12_laysMember_17 rfl 1 rfl ?_
      refine g_imul hC dX12_laysMember_18 rfl ?_
      refine g_iload hC dX12_laysMember_19 rfl 4 rfl ?_
      refine g_iadd hC dX12_laysMember_21 rfl ?_
      refine g_iald hC hj1 dX12_laysMember_22 rfl hM (fun x2 hM => ?_)
      refine g_callVi (As := [.int x2]) (st' := []) (k := a0) (L' := 0) hC Y_X12_rest I_X12_rest k_1203 ⟨by decide, by decide⟩ h0 (ci := 11) (by decide) rfl dX12_laysMember_23 rfl rfl rfl (Nat.le_of_ble_eq_true rfl) ⟨Nat.zero_le _, Nat.zero_le _⟩ hM (fun c hc => c_X12_rest (xE X) a0 h0 x2 c hc) (fun c3 hM => ?_)
      refine g_istore hC (fun y4 => [(5, .int y4), (0, vr X a0), (1, .int a1), (2, .int a2), (3, .int a3), (4, .int v4)]) dX12_laysMember_26 rfl hM hml (by decide) (fun _ => rfl) (fun y4 hM => ?_)
      refine g_aload_n hC dX12_laysMember_28 rfl 1 rfl ?_
      refine g_aload_n hC dX12_laysMember_29 rfl 1 rfl ?_
      refine fg_11_0 hC h0 k_1082 dX12_laysMember_30 rfl hM (fun j5 hj5 hM => ?_)
      refine g_bipush (v := 6) hC dX12_laysMember_33 rfl ib_6 ?_
      refine g_iload_n hC dX12_laysMember_35 rfl 3 rfl ?_
      refine g_imul hC dX12_laysMember_36 rfl ?_
      refine g_iload hC dX12_laysMember_37 rfl 5 rfl ?_
      refine g_iadd hC dX12_laysMember_39 rfl ?_
      refine g_iald hC hj5 dX12_laysMember_40 rfl hM (fun x6 hM => ?_)
      refine g_callVi (As := [.int x6]) (st' := []) (k := a0) (L' := 0) hC Y_X12_rest I_X12_rest k_1203 ⟨by decide, by decide⟩ h0 (ci := 11) (by decide) rfl dX12_laysMember_41 rfl rfl rfl (Nat.le_of_ble_eq_true rfl) ⟨Nat.zero_le _, Nat.zero_le _⟩ hM (fun c hc => c_X12_rest (xE X) a0 h0 x6 c hc) (fun c7 hM => ?_)
      refine g_istore hC (fun y8 => [(6, .int y8), (5, .int y4), (0, vr X a0), (1, .int a1), (2, .int a2), (3, .int a3), (4, .int v4)]) dX12_laysMember_44 rfl hM hml (by decide) (fun _ => rfl) (fun y8 hM => ?_)
      refine g_aload_n hC dX12_laysMember_46 rfl 2 rfl ?_
      refine fg_11_11 hC h0 k_1093 dX12_laysMember_47 rfl hM (fun j9 hj9 hM => ?_)
      refine g_iload hC dX12_laysMember_50 rfl 6 rfl ?_
      refine g_iload_n hC dX12_laysMember_52 rfl 5 rfl ?_
      refine g_aload_n hC dX12_laysMember_53 rfl 2 rfl ?_
      refine fg_11_7 hC h0 k_1089 dX12_laysMember_54 rfl ?_
      refine g_icmp_ne (tgt := 65) hC dX12_laysMember_57 rfl (by decide) hM (fun hM => ?_) (fun hM => ?_)
      · refine g_iload hC dX12_laysMember_65 rfl 1 rfl ?_
        refine g_iload_n hC dX12_laysMember_67 rfl 5 rfl ?_
        refine g_imul hC dX12_laysMember_68 rfl ?_
        refine g_iload hC dX12_laysMember_69 rfl 0 rfl ?_
        refine g_iadd hC dX12_laysMember_71 rfl ?_
        refine g_aload_n hC dX12_laysMember_72 rfl 2 rfl ?_
        refine fg_11_7 hC h0 k_1089 dX12_laysMember_73 rfl ?_
        refine g_irem hC dX12_laysMember_76 rfl hM (fun z10 hM => ?_)
        exact g_sub [2, 3, 4, 5, 6] ((bX12_laysMember_77 hC hml hR a0 a1 a2 a3 h0 rec ih ) _ _ _ _ _ hj9 hM) rfl
      · refine g_iload hC dX12_laysMember_60 rfl 1 rfl ?_
        refine g_goto (tgt := 77) hC dX12_laysMember_62 rfl (by decide) ?_
        exact g_sub [2, 3, 4, 5, 6] ((bX12_laysMember_77 hC hml hR a0 a1 a2 a3 h0 rec ih ) _ _ _ _ _ hj9 hM) rfl
def MX12_laysMember (σ : Sto) (ρ : Rho) (a0 : Nat) (a1 : Int32) (a2 : Int32) (a3 : Int32) : Option (Sto) :=
  bn ((0 : Int32)) fun y1 =>
  fixN (fun _ _ => none) (FX12_laysMember_3 ρ a0 a1 a2 a3) FU σ y1
set_option maxHeartbeats 4000000 in
set_option maxRecDepth 100000 in
theorem c_X12_laysMember (E : EX) {n : Nat} {σ : Sto} {ρ : Rho} (a0 : Nat) (h0 : Sh n a0 11) (a1 : Int32) (a2 : Int32) (a3 : Int32) (res : Sto) (hM : MX12_laysMember σ ρ a0 a1 a2 a3 = some res) : CTv E yX12_laysMember cX12_laysMember 7 1 0 0 [.ref (eb E + a0), .int a1, .int a2, .int a3] n σ ρ res ρ := by
  refine ct_v (by decide +kernel) (Nat.le_of_ble_eq_true rfl) (fun X hE hml hin hRm hC hR => ?_)
  subst hE
  show G X 0 0 n σ ρ 0 [(0, vr X a0), (1, .int a1), (2, .int a2), (3, .int a3)] []
  replace hC : Cx X cX12_laysMember RX12 1 := hC
  unfold MX12_laysMember at hM
  refine g_iconst (v := 0) hC dX12_laysMember_0 rfl ic_0 ?_
  refine g_istore hC (fun y1 => [(4, .int y1), (0, vr X a0), (1, .int a1), (2, .int a2), (3, .int a3)]) dX12_laysMember_1 rfl hM hml (by decide) (fun _ => rfl) (fun y1 hM => ?_)
  exact g_sub [1, 2, 3, 4, 0] ((bX12_laysMember_3 hC hml hR a0 a1 a2 a3 h0  FU) _ _ hM) rfl
def MX12_isBase (σ : Sto) (ρ : Rho) (a0 : Nat) (a1 : Int32) (a2 : Int32) (a3 : Int32) : Option (Int32 × Sto) :=
  Option.bind (MX12_laysConic σ ρ a0 ((0 : Int32)) a1) fun c1 =>
  Option.bind (MX12_isOn c1 ρ a0 a3) fun c2 =>
  bn c2.1 fun y3 =>
  Option.bind (MX12_laysConic c2.2 ρ a0 ((0 : Int32)) a2) fun c4 =>
  if y3 = 0 then
    zr ((0 : Int32)) (some ((0 : Int32), c4))
  else
    Option.bind (MX12_isOn c4 ρ a0 a3) fun c5 =>
    if c5.1 = 0 then
      zr ((0 : Int32)) (some ((0 : Int32), c5.2))
    else
      zr ((1 : Int32)) (some ((1 : Int32), c5.2))
set_option maxHeartbeats 4000000 in
set_option maxRecDepth 100000 in
theorem c_X12_isBase (E : EX) {n : Nat} {σ : Sto} {ρ : Rho} (a0 : Nat) (h0 : Sh n a0 11) (a1 : Int32) (a2 : Int32) (a3 : Int32) (res : Int32 × Sto) (hM : MX12_isBase σ ρ a0 a1 a2 a3 = some res) : CTi E yX12_isBase cX12_isBase 5 (some .boolean) 2 [.ref (eb E + a0), .int a1, .int a2, .int a3] n σ ρ res.1 res.2 ρ := by
  refine ct_i (by decide +kernel) rfl (Nat.le_of_ble_eq_true rfl) (fun X hE hml hC hR => ?_)
  subst hE
  show G X 0 0 n σ ρ 0 [(0, vr X a0), (1, .int a1), (2, .int a2), (3, .int a3)] []
  replace hC : Cx X cX12_isBase RX12 2 := hC
  unfold MX12_isBase at hM
  refine g_aload_n hC dX12_isBase_0 rfl 0 rfl ?_
  refine g_iconst (v := 0) hC dX12_isBase_1 rfl ic_0 ?_
  refine g_iload_n hC dX12_isBase_2 rfl 1 rfl ?_
  refine g_callVv0 (As := [.int ((0 : Int32)), .int a1]) (st' := []) (k := a0) (L' := 1) hC Y_X12_laysConic I_X12_laysConic k_1199 ⟨by decide, by decide⟩ h0 (ci := 11) (by decide) rfl dX12_isBase_3 rfl rfl rfl (Nat.le_of_ble_eq_true rfl) ⟨Nat.zero_le _, Nat.zero_le _⟩ hM (fun c hc => c_X12_laysConic (xE X) a0 h0 ((0 : Int32)) a1 c hc) (fun c1 hM => ?_)
  refine g_aload_n hC dX12_isBase_6 rfl 0 rfl ?_
  refine g_iload_n hC dX12_isBase_7 rfl 3 rfl ?_
  refine g_callVi (As := [.int a3]) (st' := []) (k := a0) (L' := 1) hC Y_X12_isOn I_X12_isOn k_1243 ⟨by decide, by decide⟩ h0 (ci := 11) (by decide) rfl dX12_isBase_8 rfl rfl rfl (Nat.le_of_ble_eq_true rfl) ⟨Nat.zero_le _, Nat.zero_le _⟩ hM (fun c hc => c_X12_isOn (xE X) a0 h0 a3 c hc) (fun c2 hM => ?_)
  refine g_istore hC (fun y3 => [(4, .int y3), (0, vr X a0), (1, .int a1), (2, .int a2), (3, .int a3)]) dX12_isBase_11 rfl hM hml (by decide) (fun _ => rfl) (fun y3 hM => ?_)
  refine g_aload_n hC dX12_isBase_13 rfl 1 rfl ?_
  refine g_iconst (v := 0) hC dX12_isBase_14 rfl ic_0 ?_
  refine g_iload_n hC dX12_isBase_15 rfl 3 rfl ?_
  refine g_callVv0 (As := [.int ((0 : Int32)), .int a2]) (st' := []) (k := a0) (L' := 1) hC Y_X12_laysConic I_X12_laysConic k_1199 ⟨by decide, by decide⟩ h0 (ci := 11) (by decide) rfl dX12_isBase_16 rfl rfl rfl (Nat.le_of_ble_eq_true rfl) ⟨Nat.zero_le _, Nat.zero_le _⟩ hM (fun c hc => c_X12_laysConic (xE X) a0 h0 ((0 : Int32)) a2 c hc) (fun c4 hM => ?_)
  refine g_iload hC dX12_isBase_19 rfl 0 rfl ?_
  refine g_if_eq (tgt := 36) hC dX12_isBase_21 rfl (by decide) hM (fun hM => ?_) (fun hM => ?_)
  · refine g_iconst (v := 0) hC dX12_isBase_36 rfl ic_0 ?_
    exact g_retz hM dX12_isBase_37 rfl (fun h => by cases h; exact hR)
  · refine g_aload_n hC dX12_isBase_24 rfl 1 rfl ?_
    refine g_iload_n hC dX12_isBase_25 rfl 4 rfl ?_
    refine g_callVi (As := [.int a3]) (st' := []) (k := a0) (L' := 1) hC Y_X12_isOn I_X12_isOn k_1243 ⟨by decide, by decide⟩ h0 (ci := 11) (by decide) rfl dX12_isBase_26 rfl rfl rfl (Nat.le_of_ble_eq_true rfl) ⟨Nat.zero_le _, Nat.zero_le _⟩ hM (fun c hc => c_X12_isOn (xE X) a0 h0 a3 c hc) (fun c5 hM => ?_)
    refine g_if_eq (tgt := 36) hC dX12_isBase_29 rfl (by decide) hM (fun hM => ?_) (fun hM => ?_)
    · refine g_iconst (v := 0) hC dX12_isBase_36 rfl ic_0 ?_
      exact g_retz hM dX12_isBase_37 rfl (fun h => by cases h; exact hR)
    · refine g_iconst (v := 1) hC dX12_isBase_32 rfl ic_1 ?_
      refine g_goto (tgt := 37) hC dX12_isBase_33 rfl (by decide) ?_
      exact g_retz hM dX12_isBase_37 rfl (fun h => by cases h; exact hR)
def BX12_base_41 (ρ : Rho) (a0 : Nat) (a1 : Int32) (a2 : Int32) (a3 : Int32) (rec : Sto → Int32 → Int32 → Option (Int32 × Sto)) (k47 : Sto → Int32 → Option (Int32 × Sto)) (σ : Sto) (v4 : Int32) (v5 : Int32) : Option (Int32 × Sto) :=
  bn (v5 + (1 : Int32)) fun y1 =>
  rec σ v4 y1
set_option maxHeartbeats 4000000 in
set_option maxRecDepth 100000 in
theorem bX12_base_41 {X : CX} {n : Nat} {ρ : Rho} {res : Int32 × Sto} (hC : Cx X cX12_base RX12 3) (hml : (xc X).maxLocals = 6) (hR : RtT (some .int) X cX12_base n res.1 res.2 ρ) (a0 : Nat) (a1 : Int32) (a2 : Int32) (a3 : Int32) (h0 : Sh n a0 11) (rec : Sto → Int32 → Int32 → Option (Int32 × Sto)) (ih : ∀ (σ : Sto) (v4 : Int32) (v5 : Int32), rec σ v4 v5 = some res → G X 0 0 n σ ρ 6 [(0, vr X a0), (1, .int a1), (2, .int a2), (3, .int a3), (4, .int v4), (5, .int v5)] []) (k47 : Sto → Int32 → Option (Int32 × Sto)) (hk47 : ∀ (σ : Sto) (v4 : Int32), k47 σ v4 = some res → G X 0 0 n σ ρ 47 [(0, vr X a0), (1, .int a1), (2, .int a2), (3, .int a3), (4, .int v4)] []) : ∀ (σ : Sto) (v4 : Int32) (v5 : Int32), BX12_base_41 ρ a0 a1 a2 a3 rec k47 σ v4 v5 = some res → G X 0 0 n σ ρ 41 [(0, vr X a0), (1, .int a1), (2, .int a2), (3, .int a3), (4, .int v4), (5, .int v5)] [] := by
  intro σ v4 v5 hM
  unfold BX12_base_41 at hM
  refine g_iinc (v := 1) hC (fun y1 => [(5, .int y1), (0, vr X a0), (1, .int a1), (2, .int a2), (3, .int a3), (4, .int v4)]) dX12_base_41 rfl hM (j := 5) rfl ic_1 hml (by decide) (fun _ => rfl) (fun y1 hM => ?_)
  refine g_goto (tgt := 6) hC dX12_base_44 rfl (by decide) ?_
  exact g_sub [1, 2, 3, 4, 5, 0] (ih _ _ _ hM) rfl
def BX12_base_47 (ρ : Rho) (a0 : Nat) (a1 : Int32) (a2 : Int32) (a3 : Int32) (σ : Sto) (v4 : Int32) : Option (Int32 × Sto) :=
  some (((-1 : Int32) - v4), σ)
set_option maxHeartbeats 4000000 in
set_option maxRecDepth 100000 in
theorem bX12_base_47 {X : CX} {n : Nat} {ρ : Rho} {res : Int32 × Sto} (hC : Cx X cX12_base RX12 3) (hml : (xc X).maxLocals = 6) (hR : RtT (some .int) X cX12_base n res.1 res.2 ρ) (a0 : Nat) (a1 : Int32) (a2 : Int32) (a3 : Int32) (h0 : Sh n a0 11) : ∀ (σ : Sto) (v4 : Int32), BX12_base_47 ρ a0 a1 a2 a3 σ v4 = some res → G X 0 0 n σ ρ 47 [(0, vr X a0), (1, .int a1), (2, .int a2), (3, .int a3), (4, .int v4)] [] := by
  intro σ v4 hM
  unfold BX12_base_47 at hM
  refine g_iconst (v := -1) hC dX12_base_47 rfl ic_m1 ?_
  refine g_iload hC dX12_base_48 rfl 4 rfl ?_
  refine g_isub hC dX12_base_50 rfl ?_
  obtain rfl := Option.some.inj hM
  exact g_reti hR dX12_base_51 rfl
def FX12_base_6 (ρ : Rho) (a0 : Nat) (a1 : Int32) (a2 : Int32) (a3 : Int32) (k47 : Sto → Int32 → Option (Int32 × Sto)) (rec : Sto → Int32 → Int32 → Option (Int32 × Sto)) (σ : Sto) (v4 : Int32) (v5 : Int32) : Option (Int32 × Sto) :=
  Option.bind (MX12_places σ a0) fun c1 =>
  if c1 ≤ v5 then
    k47 σ v4
  else
    Option.bind (MX12_isBase σ ρ a0 a1 a2 v5) fun c2 =>
    if c2.1 = 0 then
      BX12_base_41 ρ a0 a1 a2 a3 rec k47 c2.2 v4 v5
    else
      if v4 = a3 then
        some (v5, c2.2)
      else
        bn (v4 + (1 : Int32)) fun y3 =>
        BX12_base_41 ρ a0 a1 a2 a3 rec k47 c2.2 y3 v5
set_option maxHeartbeats 4000000 in
set_option maxRecDepth 100000 in
theorem bX12_base_6 {X : CX} {n : Nat} {ρ : Rho} {res : Int32 × Sto} (hC : Cx X cX12_base RX12 3) (hml : (xc X).maxLocals = 6) (hR : RtT (some .int) X cX12_base n res.1 res.2 ρ) (a0 : Nat) (a1 : Int32) (a2 : Int32) (a3 : Int32) (h0 : Sh n a0 11) (k47 : Sto → Int32 → Option (Int32 × Sto)) (hk47 : ∀ (σ : Sto) (v4 : Int32), k47 σ v4 = some res → G X 0 0 n σ ρ 47 [(0, vr X a0), (1, .int a1), (2, .int a2), (3, .int a3), (4, .int v4)] []) (fu : Nat) : ∀ (σ : Sto) (v4 : Int32) (v5 : Int32), fixN (fun _ _ _ => none) (FX12_base_6 ρ a0 a1 a2 a3 k47) fu σ v4 v5 = some res → G X 0 0 n σ ρ 6 [(0, vr X a0), (1, .int a1), (2, .int a2), (3, .int a3), (4, .int v4), (5, .int v5)] [] := by
  refine fixN_ind (P := fun (f : Sto → Int32 → Int32 → Option (Int32 × Sto)) => ∀ (σ : Sto) (v4 : Int32) (v5 : Int32), f σ v4 v5 = some res → G X 0 0 n σ ρ 6 [(0, vr X a0), (1, .int a1), (2, .int a2), (3, .int a3), (4, .int v4), (5, .int v5)] []) ?_ ?_ fu
  · intro σ v4 v5 hM; cases hM
  · intro rec ih σ v4 v5 hM
    unfold FX12_base_6 at hM
    refine g_iload hC dX12_base_6 rfl 5 rfl ?_
    refine g_aload_n hC dX12_base_8 rfl 0 rfl ?_
    refine g_callVi (As := []) (st' := [.int v5]) (k := a0) (L' := 0) hC Y_X12_places I_X12_places k_1227 ⟨by decide, by decide⟩ h0 (ci := 11) (by decide) rfl dX12_base_9 rfl rfl rfl (Nat.le_of_ble_eq_true rfl) ⟨Nat.zero_le _, Nat.zero_le _⟩ hM (fun c hc => c_X12_places (xE X) a0 h0 c hc) (fun c1 hM => ?_)
    refine g_icmp_ge (tgt := 47) hC dX12_base_12 rfl (by decide) hM (fun hM => ?_) (fun hM => ?_)
    · exact g_sub [0, 1, 2, 3, 4] (hk47 _ _ hM) rfl
    · refine g_aload_n hC dX12_base_15 rfl 0 rfl ?_
      refine g_iload_n hC dX12_base_16 rfl 1 rfl ?_
      refine g_iload_n hC dX12_base_17 rfl 2 rfl ?_
      refine g_iload hC dX12_base_18 rfl 5 rfl ?_
      refine g_callVi (As := [.int a1, .int a2, .int v5]) (st' := []) (k := a0) (L' := 2) hC Y_X12_isBase I_X12_isBase k_1407 ⟨by decide, by decide⟩ h0 (ci := 11) (by decide) rfl dX12_base_20 rfl rfl rfl (Nat.le_of_ble_eq_true rfl) ⟨Nat.zero_le _, Nat.zero_le _⟩ hM (fun c hc => c_X12_isBase (xE X) a0 h0 a1 a2 v5 c hc) (fun c2 hM => ?_)
      refine g_if_ne (tgt := 29) hC dX12_base_23 rfl (by decide) hM (fun hM => ?_) (fun hM => ?_)
      · refine g_iload hC dX12_base_29 rfl 4 rfl ?_
        refine g_iload_n hC dX12_base_31 rfl 3 rfl ?_
        refine g_icmp_ne (tgt := 38) hC dX12_base_32 rfl (by decide) hM (fun hM => ?_) (fun hM => ?_)
        · refine g_iinc (v := 1) hC (fun y3 => [(4, .int y3), (0, vr X a0), (1, .int a1), (2, .int a2), (3, .int a3), (5, .int v5)]) dX12_base_38 rfl hM (j := 4) rfl ic_1 hml (by decide) (fun _ => rfl) (fun y3 hM => ?_)
          exact g_sub [1, 2, 3, 4, 0, 5] ((bX12_base_41 hC hml hR a0 a1 a2 a3 h0 rec ih k47 hk47) _ _ _ hM) rfl
        · refine g_iload hC dX12_base_35 rfl 5 rfl ?_
          cases hM
          exact g_reti hR dX12_base_37 rfl
      · refine g_goto (tgt := 41) hC dX12_base_26 rfl (by decide) ?_
        exact g_sub [0, 1, 2, 3, 4, 5] ((bX12_base_41 hC hml hR a0 a1 a2 a3 h0 rec ih k47 hk47) _ _ _ hM) rfl
def MX12_base (σ : Sto) (ρ : Rho) (a0 : Nat) (a1 : Int32) (a2 : Int32) (a3 : Int32) : Option (Int32 × Sto) :=
  bn ((0 : Int32)) fun y1 =>
  bn ((0 : Int32)) fun y2 =>
  fixN (fun _ _ _ => none) (FX12_base_6 ρ a0 a1 a2 a3 (BX12_base_47 ρ a0 a1 a2 a3)) FU σ y1 y2
set_option maxHeartbeats 4000000 in
set_option maxRecDepth 100000 in
theorem c_X12_base (E : EX) {n : Nat} {σ : Sto} {ρ : Rho} (a0 : Nat) (h0 : Sh n a0 11) (a1 : Int32) (a2 : Int32) (a3 : Int32) (res : Int32 × Sto) (hM : MX12_base σ ρ a0 a1 a2 a3 = some res) : CTi E yX12_base cX12_base 6 (some .int) 3 [.ref (eb E + a0), .int a1, .int a2, .int a3] n σ ρ res.1 res.2 ρ := by
  refine ct_i (by decide +kernel) rfl (Nat.le_of_ble_eq_true rfl) (fun X hE hml hC hR => ?_)
  subst hE
  show G X 0 0 n σ ρ 0 [(0, vr X a0), (1, .int a1), (2, .int a2), (3, .int a3)] []
  replace hC : Cx X cX12_base RX12 3 := hC
  unfold MX12_base at hM
  refine g_iconst (v := 0) hC dX12_base_0 rfl ic_0 ?_
  refine g_istore hC (fun y1 => [(4, .int y1), (0, vr X a0), (1, .int a1), (2, .int a2), (3, .int a3)]) dX12_base_1 rfl hM hml (by decide) (fun _ => rfl) (fun y1 hM => ?_)
  refine g_iconst (v := 0) hC dX12_base_3 rfl ic_0 ?_
  refine g_istore hC (fun y2 => [(5, .int y2), (4, .int y1), (0, vr X a0), (1, .int a1), (2, .int a2), (3, .int a3)]) dX12_base_4 rfl hM hml (by decide) (fun _ => rfl) (fun y2 hM => ?_)
  exact g_sub [2, 3, 4, 5, 1, 0] ((bX12_base_6 hC hml hR a0 a1 a2 a3 h0 (BX12_base_47 ρ a0 a1 a2 a3) (bX12_base_47 hC hml hR a0 a1 a2 a3 h0 ) FU) _ _ _ hM) rfl
def BX12_fallen_36 (ρ : Rho) (a0 : Nat) (a1 : Int32) (a2 : Int32) (rec : Sto → Int32 → Int32 → Option (Int32 × Sto)) (σ : Sto) (v4 : Int32) (t0 : Int32) (t1 : Int32) : Option (Int32 × Sto) :=
  bn ((t0 + t1)) fun y1 =>
  bn (v4 + (1 : Int32)) fun y2 =>
  rec σ y1 y2
set_option maxHeartbeats 4000000 in
set_option maxRecDepth 100000 in
theorem bX12_fallen_36 {X : CX} {n : Nat} {ρ : Rho} {res : Int32 × Sto} (hC : Cx X cX12_fallen RX12 3) (hml : (xc X).maxLocals = 5) (hR : RtT (some .int) X cX12_fallen n res.1 res.2 ρ) (a0 : Nat) (a1 : Int32) (a2 : Int32) (h0 : Sh n a0 11) (rec : Sto → Int32 → Int32 → Option (Int32 × Sto)) (ih : ∀ (σ : Sto) (v3 : Int32) (v4 : Int32), rec σ v3 v4 = some res → G X 0 0 n σ ρ 5 [(0, vr X a0), (1, .int a1), (2, .int a2), (3, .int v3), (4, .int v4)] []) : ∀ (σ : Sto) (v4 : Int32) (t0 : Int32) (t1 : Int32), BX12_fallen_36 ρ a0 a1 a2 rec σ v4 t0 t1 = some res → G X 0 0 n σ ρ 36 [(0, vr X a0), (1, .int a1), (2, .int a2), (4, .int v4)] [.int t1, .int t0] := by
  intro σ v4 t0 t1 hM
  unfold BX12_fallen_36 at hM
  refine g_iadd hC dX12_fallen_36 rfl ?_
  refine g_istore_n hC (fun y1 => [(3, .int y1), (0, vr X a0), (1, .int a1), (2, .int a2), (4, .int v4)]) dX12_fallen_37 rfl hM hml (by decide) (fun _ => rfl) (fun y1 hM => ?_)
  refine g_iinc (v := 1) hC (fun y2 => [(4, .int y2), (3, .int y1), (0, vr X a0), (1, .int a1), (2, .int a2)]) dX12_fallen_38 rfl hM (j := 4) rfl ic_1 hml (by decide) (fun _ => rfl) (fun y2 hM => ?_)
  refine g_goto (tgt := 5) hC dX12_fallen_41 rfl (by decide) ?_
  exact g_sub [2, 3, 4, 1, 0] (ih _ _ _ hM) rfl
def FX12_fallen_5 (ρ : Rho) (a0 : Nat) (a1 : Int32) (a2 : Int32) (rec : Sto → Int32 → Int32 → Option (Int32 × Sto)) (σ : Sto) (v3 : Int32) (v4 : Int32) : Option (Int32 × Sto) :=
  if (σ a0 7) < v4 then
    some (v3, σ)
  else
    Option.bind (MX12_laysMember σ ρ a0 a1 a2 v4) fun c1 =>
    Option.bind (MX12_rankOf c1 ρ a0) fun c2 =>
    if (3 : Int32) ≤ c2.1 then
      BX12_fallen_36 ρ a0 a1 a2 rec c2.2 v4 v3 ((0 : Int32))
    else
      BX12_fallen_36 ρ a0 a1 a2 rec c2.2 v4 v3 ((1 : Int32))
set_option maxHeartbeats 4000000 in
set_option maxRecDepth 100000 in
theorem bX12_fallen_5 {X : CX} {n : Nat} {ρ : Rho} {res : Int32 × Sto} (hC : Cx X cX12_fallen RX12 3) (hml : (xc X).maxLocals = 5) (hR : RtT (some .int) X cX12_fallen n res.1 res.2 ρ) (a0 : Nat) (a1 : Int32) (a2 : Int32) (h0 : Sh n a0 11) (fu : Nat) : ∀ (σ : Sto) (v3 : Int32) (v4 : Int32), fixN (fun _ _ _ => none) (FX12_fallen_5 ρ a0 a1 a2) fu σ v3 v4 = some res → G X 0 0 n σ ρ 5 [(0, vr X a0), (1, .int a1), (2, .int a2), (3, .int v3), (4, .int v4)] [] := by
  refine fixN_ind (P := fun (f : Sto → Int32 → Int32 → Option (Int32 × Sto)) => ∀ (σ : Sto) (v3 : Int32) (v4 : Int32), f σ v3 v4 = some res → G X 0 0 n σ ρ 5 [(0, vr X a0), (1, .int a1), (2, .int a2), (3, .int v3), (4, .int v4)] []) ?_ ?_ fu
  · intro σ v3 v4 hM; cases hM
  · intro rec ih σ v3 v4 hM
    unfold FX12_fallen_5 at hM
    refine g_iload hC dX12_fallen_5 rfl 4 rfl ?_
    refine g_aload_n hC dX12_fallen_7 rfl 0 rfl ?_
    refine fg_11_7 hC h0 k_1089 dX12_fallen_8 rfl ?_
    refine g_icmp_gt (tgt := 44) hC dX12_fallen_11 rfl (by decide) hM (fun hM => ?_) (fun hM => ?_)
    · refine g_iload_n hC dX12_fallen_44 rfl 3 rfl ?_
      cases hM
      exact g_reti hR dX12_fallen_45 rfl
    · refine g_aload_n hC dX12_fallen_14 rfl 0 rfl ?_
      refine g_iload_n hC dX12_fallen_15 rfl 1 rfl ?_
      refine g_iload_n hC dX12_fallen_16 rfl 2 rfl ?_
      refine g_iload hC dX12_fallen_17 rfl 4 rfl ?_
      refine g_callVv0 (As := [.int a1, .int a2, .int v4]) (st' := []) (k := a0) (L' := 1) hC Y_X12_laysMember I_X12_laysMember k_1415 ⟨by decide, by decide⟩ h0 (ci := 11) (by decide) rfl dX12_fallen_19 rfl rfl rfl (Nat.le_of_ble_eq_true rfl) ⟨Nat.zero_le _, Nat.zero_le _⟩ hM (fun c hc => c_X12_laysMember (xE X) a0 h0 a1 a2 v4 c hc) (fun c1 hM => ?_)
      refine g_iload_n hC dX12_fallen_22 rfl 3 rfl ?_
      refine g_aload_n hC dX12_fallen_23 rfl 0 rfl ?_
      refine g_callVi (As := []) (st' := [.int v3]) (k := a0) (L' := 2) hC Y_X12_rankOf I_X12_rankOf k_1211 ⟨by decide, by decide⟩ h0 (ci := 11) (by decide) rfl dX12_fallen_24 rfl rfl rfl (Nat.le_of_ble_eq_true rfl) ⟨Nat.zero_le _, Nat.zero_le _⟩ hM (fun c hc => c_X12_rankOf (xE X) a0 h0 c hc) (fun c2 hM => ?_)
      refine g_iconst (v := 3) hC dX12_fallen_27 rfl ic_3 ?_
      refine g_icmp_ge (tgt := 35) hC dX12_fallen_28 rfl (by decide) hM (fun hM => ?_) (fun hM => ?_)
      · refine g_iconst (v := 0) hC dX12_fallen_35 rfl ic_0 ?_
        exact g_sub [0, 1, 2, 4] ((bX12_fallen_36 hC hml hR a0 a1 a2 h0 rec ih ) _ _ _ _ hM) rfl
      · refine g_iconst (v := 1) hC dX12_fallen_31 rfl ic_1 ?_
        refine g_goto (tgt := 36) hC dX12_fallen_32 rfl (by decide) ?_
        exact g_sub [0, 1, 2, 4] ((bX12_fallen_36 hC hml hR a0 a1 a2 h0 rec ih ) _ _ _ _ hM) rfl
def MX12_fallen (σ : Sto) (ρ : Rho) (a0 : Nat) (a1 : Int32) (a2 : Int32) : Option (Int32 × Sto) :=
  bn ((0 : Int32)) fun y1 =>
  bn ((0 : Int32)) fun y2 =>
  fixN (fun _ _ _ => none) (FX12_fallen_5 ρ a0 a1 a2) FU σ y1 y2
set_option maxHeartbeats 4000000 in
set_option maxRecDepth 100000 in
theorem c_X12_fallen (E : EX) {n : Nat} {σ : Sto} {ρ : Rho} (a0 : Nat) (h0 : Sh n a0 11) (a1 : Int32) (a2 : Int32) (res : Int32 × Sto) (hM : MX12_fallen σ ρ a0 a1 a2 = some res) : CTi E yX12_fallen cX12_fallen 5 (some .int) 3 [.ref (eb E + a0), .int a1, .int a2] n σ ρ res.1 res.2 ρ := by
  refine ct_i (by decide +kernel) rfl (Nat.le_of_ble_eq_true rfl) (fun X hE hml hC hR => ?_)
  subst hE
  show G X 0 0 n σ ρ 0 [(0, vr X a0), (1, .int a1), (2, .int a2)] []
  replace hC : Cx X cX12_fallen RX12 3 := hC
  unfold MX12_fallen at hM
  refine g_iconst (v := 0) hC dX12_fallen_0 rfl ic_0 ?_
  refine g_istore_n hC (fun y1 => [(3, .int y1), (0, vr X a0), (1, .int a1), (2, .int a2)]) dX12_fallen_1 rfl hM hml (by decide) (fun _ => rfl) (fun y1 hM => ?_)
  refine g_iconst (v := 0) hC dX12_fallen_2 rfl ic_0 ?_
  refine g_istore hC (fun y2 => [(4, .int y2), (3, .int y1), (0, vr X a0), (1, .int a1), (2, .int a2)]) dX12_fallen_3 rfl hM hml (by decide) (fun _ => rfl) (fun y2 hM => ?_)
  exact g_sub [2, 3, 4, 1, 0] ((bX12_fallen_5 hC hml hR a0 a1 a2 h0  FU) _ _ _ hM) rfl

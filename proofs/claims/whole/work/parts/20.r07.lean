def BX12_proper_30 (ρ : Rho) (a0 : Nat) (rec : Sto → Int32 → Int32 → Option (Int32 × Sto)) (σ : Sto) (v2 : Int32) (t0 : Int32) (t1 : Int32) : Option (Int32 × Sto) :=
  bn ((t0 + t1)) fun y1 =>
  bn (v2 + (1 : Int32)) fun y2 =>
  rec σ y1 y2
set_option maxHeartbeats 4000000 in
set_option maxRecDepth 100000 in
theorem bX12_proper_30 {X : CX} {n : Nat} {ρ : Rho} {res : Int32 × Sto} (hC : Cx X cX12_proper RX12 3) (hml : (xc X).maxLocals = 3) (hR : RtT (some .int) X cX12_proper n res.1 res.2 ρ) (a0 : Nat) (h0 : Sh n a0 11) (rec : Sto → Int32 → Int32 → Option (Int32 × Sto)) (ih : ∀ (σ : Sto) (v1 : Int32) (v2 : Int32), rec σ v1 v2 = some res → G X 0 0 n σ ρ 4 [(0, vr X a0), (1, .int v1), (2, .int v2)] []) : ∀ (σ : Sto) (v2 : Int32) (t0 : Int32) (t1 : Int32), BX12_proper_30 ρ a0 rec σ v2 t0 t1 = some res → G X 0 0 n σ ρ 30 [(0, vr X a0), (2, .int v2)] [.int t1, .int t0] := by
  intro σ v2 t0 t1 hM
  unfold BX12_proper_30 at hM
  refine g_iadd hC dX12_proper_30 rfl ?_
  refine g_istore_n hC (fun y1 => [(1, .int y1), (0, vr X a0), (2, .int v2)]) dX12_proper_31 rfl hM hml (by decide) (fun _ => rfl) (fun y1 hM => ?_)
  refine g_iinc (v := 1) hC (fun y2 => [(2, .int y2), (1, .int y1), (0, vr X a0)]) dX12_proper_32 rfl hM (j := 2) rfl ic_1 hml (by decide) (fun _ => rfl) (fun y2 hM => ?_)
  refine g_goto (tgt := 4) hC dX12_proper_35 rfl (by decide) ?_
  exact g_sub [2, 1, 0] (ih _ _ _ hM) rfl
def FX12_proper_4 (ρ : Rho) (a0 : Nat) (rec : Sto → Int32 → Int32 → Option (Int32 × Sto)) (σ : Sto) (v1 : Int32) (v2 : Int32) : Option (Int32 × Sto) :=
  if (6 : Int32) ≤ v2 then
    some (v1, σ)
  else
    Option.bind (MX12_laysConic σ ρ a0 ((0 : Int32)) v2) fun c1 =>
    Option.bind (MX12_rankOf c1 ρ a0) fun c2 =>
    if c2.1 = (3 : Int32) then
      BX12_proper_30 ρ a0 rec c2.2 v2 v1 ((1 : Int32))
    else
      BX12_proper_30 ρ a0 rec c2.2 v2 v1 ((0 : Int32))
set_option maxHeartbeats 4000000 in
set_option maxRecDepth 100000 in
theorem bX12_proper_4 {X : CX} {n : Nat} {ρ : Rho} {res : Int32 × Sto} (hC : Cx X cX12_proper RX12 3) (hml : (xc X).maxLocals = 3) (hR : RtT (some .int) X cX12_proper n res.1 res.2 ρ) (a0 : Nat) (h0 : Sh n a0 11) (fu : Nat) : ∀ (σ : Sto) (v1 : Int32) (v2 : Int32), fixN (fun _ _ _ => none) (FX12_proper_4 ρ a0) fu σ v1 v2 = some res → G X 0 0 n σ ρ 4 [(0, vr X a0), (1, .int v1), (2, .int v2)] [] := by
  refine fixN_ind (P := fun (f : Sto → Int32 → Int32 → Option (Int32 × Sto)) => ∀ (σ : Sto) (v1 : Int32) (v2 : Int32), f σ v1 v2 = some res → G X 0 0 n σ ρ 4 [(0, vr X a0), (1, .int v1), (2, .int v2)] []) ?_ ?_ fu
  · intro σ v1 v2 hM; cases hM
  · intro rec ih σ v1 v2 hM
    unfold FX12_proper_4 at hM
    refine g_iload_n hC dX12_proper_4 rfl 2 rfl ?_
    refine g_bipush (v := 6) hC dX12_proper_5 rfl ib_6 ?_
    refine g_icmp_ge (tgt := 38) hC dX12_proper_7 rfl (by decide) hM (fun hM => ?_) (fun hM => ?_)
    · refine g_iload_n hC dX12_proper_38 rfl 1 rfl ?_
      cases hM
      exact g_reti hR dX12_proper_39 rfl
    · refine g_aload_n hC dX12_proper_10 rfl 0 rfl ?_
      refine g_iconst (v := 0) hC dX12_proper_11 rfl ic_0 ?_
      refine g_iload_n hC dX12_proper_12 rfl 2 rfl ?_
      refine g_callVv0 (As := [.int ((0 : Int32)), .int v2]) (st' := []) (k := a0) (L' := 1) hC Y_X12_laysConic I_X12_laysConic k_1199 ⟨by decide, by decide⟩ h0 (ci := 11) (by decide) rfl dX12_proper_13 rfl rfl rfl (Nat.le_of_ble_eq_true rfl) ⟨Nat.zero_le _, Nat.zero_le _⟩ hM (fun c hc => c_X12_laysConic (xE X) a0 h0 ((0 : Int32)) v2 c hc) (fun c1 hM => ?_)
      refine g_iload_n hC dX12_proper_16 rfl 1 rfl ?_
      refine g_aload_n hC dX12_proper_17 rfl 0 rfl ?_
      refine g_callVi (As := []) (st' := [.int v1]) (k := a0) (L' := 2) hC Y_X12_rankOf I_X12_rankOf k_1211 ⟨by decide, by decide⟩ h0 (ci := 11) (by decide) rfl dX12_proper_18 rfl rfl rfl (Nat.le_of_ble_eq_true rfl) ⟨Nat.zero_le _, Nat.zero_le _⟩ hM (fun c hc => c_X12_rankOf (xE X) a0 h0 c hc) (fun c2 hM => ?_)
      refine g_iconst (v := 3) hC dX12_proper_21 rfl ic_3 ?_
      refine g_icmp_ne (tgt := 29) hC dX12_proper_22 rfl (by decide) hM (fun hM => ?_) (fun hM => ?_)
      · refine g_iconst (v := 0) hC dX12_proper_29 rfl ic_0 ?_
        exact g_sub [0, 2] ((bX12_proper_30 hC hml hR a0 h0 rec ih ) _ _ _ _ hM) rfl
      · refine g_iconst (v := 1) hC dX12_proper_25 rfl ic_1 ?_
        refine g_goto (tgt := 30) hC dX12_proper_26 rfl (by decide) ?_
        exact g_sub [0, 2] ((bX12_proper_30 hC hml hR a0 h0 rec ih ) _ _ _ _ hM) rfl
def MX12_proper (σ : Sto) (ρ : Rho) (a0 : Nat) : Option (Int32 × Sto) :=
  bn ((0 : Int32)) fun y1 =>
  bn ((0 : Int32)) fun y2 =>
  fixN (fun _ _ _ => none) (FX12_proper_4 ρ a0) FU σ y1 y2
set_option maxHeartbeats 4000000 in
set_option maxRecDepth 100000 in
theorem c_X12_proper (E : EX) {n : Nat} {σ : Sto} {ρ : Rho} (a0 : Nat) (h0 : Sh n a0 11) (res : Int32 × Sto) (hM : MX12_proper σ ρ a0 = some res) : CTi E yX12_proper cX12_proper 3 (some .int) 3 [.ref (eb E + a0)] n σ ρ res.1 res.2 ρ := by
  refine ct_i (by decide +kernel) rfl (Nat.le_of_ble_eq_true rfl) (fun X hE hml hC hR => ?_)
  subst hE
  show G X 0 0 n σ ρ 0 [(0, vr X a0)] []
  replace hC : Cx X cX12_proper RX12 3 := hC
  unfold MX12_proper at hM
  refine g_iconst (v := 0) hC dX12_proper_0 rfl ic_0 ?_
  refine g_istore_n hC (fun y1 => [(1, .int y1), (0, vr X a0)]) dX12_proper_1 rfl hM hml (by decide) (fun _ => rfl) (fun y1 hM => ?_)
  refine g_iconst (v := 0) hC dX12_proper_2 rfl ic_0 ?_
  refine g_istore_n hC (fun y2 => [(2, .int y2), (1, .int y1), (0, vr X a0)]) dX12_proper_3 rfl hM hml (by decide) (fun _ => rfl) (fun y2 hM => ?_)
  exact g_sub [2, 1, 0] ((bX12_proper_4 hC hml hR a0 h0  FU) _ _ _ hM) rfl
def MX12_lineOf (σ : Sto) (a0 : Nat) (a1 : Int32) (a2 : Int32) : Option (Int32 × Sto) :=
  Option.bind (MX12_laysPlace σ a0 a1) fun c1 =>
  bn ((c1 a0 8)) fun y2 =>
  bn ((c1 a0 9)) fun y3 =>
  bn ((c1 a0 10)) fun y4 =>
  Option.bind (MX12_laysPlace c1 a0 a2) fun c5 =>
  Option.bind (MX12_numberOf c5 a0 (((y3 * (c5 a0 10)) - (y4 * (c5 a0 9)))) (((y4 * (c5 a0 8)) - (y2 * (c5 a0 10)))) (((y2 * (c5 a0 9)) - (y3 * (c5 a0 8))))) fun c6 =>
  some (c6, c5)
set_option maxHeartbeats 4000000 in
set_option maxRecDepth 100000 in
theorem c_X12_lineOf (E : EX) {n : Nat} {ρ : Rho} {σ : Sto} (a0 : Nat) (h0 : Sh n a0 11) (a1 : Int32) (a2 : Int32) (res : Int32 × Sto) (hM : MX12_lineOf σ a0 a1 a2 = some res) : CTi E yX12_lineOf cX12_lineOf 6 (some .int) 2 [.ref (eb E + a0), .int a1, .int a2] n σ ρ res.1 res.2 ρ := by
  refine ct_i (by decide +kernel) rfl (Nat.le_of_ble_eq_true rfl) (fun X hE hml hC hR => ?_)
  subst hE
  show G X 0 0 n σ ρ 0 [(0, vr X a0), (1, .int a1), (2, .int a2)] []
  replace hC : Cx X cX12_lineOf RX12 2 := hC
  unfold MX12_lineOf at hM
  refine g_aload_n hC dX12_lineOf_0 rfl 0 rfl ?_
  refine g_iload_n hC dX12_lineOf_1 rfl 1 rfl ?_
  refine g_callVv0 (As := [.int a1]) (st' := []) (k := a0) (L' := 0) hC Y_X12_laysPlace I_X12_laysPlace k_1239 ⟨by decide, by decide⟩ h0 (ci := 11) (by decide) rfl dX12_lineOf_2 rfl rfl rfl (Nat.le_of_ble_eq_true rfl) ⟨Nat.zero_le _, Nat.zero_le _⟩ hM (fun c hc => c_X12_laysPlace (xE X) a0 h0 a1 c hc) (fun c1 hM => ?_)
  refine g_aload_n hC dX12_lineOf_5 rfl 0 rfl ?_
  refine fg_11_8 hC h0 k_1090 dX12_lineOf_6 rfl ?_
  refine g_istore_n hC (fun y2 => [(3, .int y2), (0, vr X a0), (1, .int a1), (2, .int a2)]) dX12_lineOf_9 rfl hM hml (by decide) (fun _ => rfl) (fun y2 hM => ?_)
  refine g_aload_n hC dX12_lineOf_10 rfl 1 rfl ?_
  refine fg_11_9 hC h0 k_1091 dX12_lineOf_11 rfl ?_
  refine g_istore hC (fun y3 => [(4, .int y3), (3, .int y2), (0, vr X a0), (1, .int a1), (2, .int a2)]) dX12_lineOf_14 rfl hM hml (by decide) (fun _ => rfl) (fun y3 hM => ?_)
  refine g_aload_n hC dX12_lineOf_16 rfl 2 rfl ?_
  refine fg_11_10 hC h0 k_1092 dX12_lineOf_17 rfl ?_
  refine g_istore hC (fun y4 => [(5, .int y4), (4, .int y3), (3, .int y2), (0, vr X a0), (1, .int a1), (2, .int a2)]) dX12_lineOf_20 rfl hM hml (by decide) (fun _ => rfl) (fun y4 hM => ?_)
  refine g_aload_n hC dX12_lineOf_22 rfl 3 rfl ?_
  refine g_iload_n hC dX12_lineOf_23 rfl 5 rfl ?_
  refine g_callVv0 (As := [.int a2]) (st' := []) (k := a0) (L' := 0) hC Y_X12_laysPlace I_X12_laysPlace k_1239 ⟨by decide, by decide⟩ h0 (ci := 11) (by decide) rfl dX12_lineOf_24 rfl rfl rfl (Nat.le_of_ble_eq_true rfl) ⟨Nat.zero_le _, Nat.zero_le _⟩ hM (fun c hc => c_X12_laysPlace (xE X) a0 h0 a2 c hc) (fun c5 hM => ?_)
  refine g_aload_n hC dX12_lineOf_27 rfl 3 rfl ?_
  refine g_iload hC dX12_lineOf_28 rfl 1 rfl ?_
  refine g_aload_n hC dX12_lineOf_30 rfl 3 rfl ?_
  refine fg_11_10 hC h0 k_1092 dX12_lineOf_31 rfl ?_
  refine g_imul hC dX12_lineOf_34 rfl ?_
  refine g_iload hC dX12_lineOf_35 rfl 0 rfl ?_
  refine g_aload_n hC dX12_lineOf_37 rfl 3 rfl ?_
  refine fg_11_9 hC h0 k_1091 dX12_lineOf_38 rfl ?_
  refine g_imul hC dX12_lineOf_41 rfl ?_
  refine g_isub hC dX12_lineOf_42 rfl ?_
  refine g_iload hC dX12_lineOf_43 rfl 0 rfl ?_
  refine g_aload_n hC dX12_lineOf_45 rfl 3 rfl ?_
  refine fg_11_8 hC h0 k_1090 dX12_lineOf_46 rfl ?_
  refine g_imul hC dX12_lineOf_49 rfl ?_
  refine g_iload_n hC dX12_lineOf_50 rfl 2 rfl ?_
  refine g_aload_n hC dX12_lineOf_51 rfl 3 rfl ?_
  refine fg_11_10 hC h0 k_1092 dX12_lineOf_52 rfl ?_
  refine g_imul hC dX12_lineOf_55 rfl ?_
  refine g_isub hC dX12_lineOf_56 rfl ?_
  refine g_iload_n hC dX12_lineOf_57 rfl 2 rfl ?_
  refine g_aload_n hC dX12_lineOf_58 rfl 3 rfl ?_
  refine fg_11_9 hC h0 k_1091 dX12_lineOf_59 rfl ?_
  refine g_imul hC dX12_lineOf_62 rfl ?_
  refine g_iload hC dX12_lineOf_63 rfl 1 rfl ?_
  refine g_aload_n hC dX12_lineOf_65 rfl 3 rfl ?_
  refine fg_11_8 hC h0 k_1090 dX12_lineOf_66 rfl ?_
  refine g_imul hC dX12_lineOf_69 rfl ?_
  refine g_isub hC dX12_lineOf_70 rfl ?_
  refine g_callVi (As := [.int (((y3 * (c5 a0 10)) - (y4 * (c5 a0 9)))), .int (((y4 * (c5 a0 8)) - (y2 * (c5 a0 10)))), .int (((y2 * (c5 a0 9)) - (y3 * (c5 a0 8))))]) (st' := []) (k := a0) (L' := 1) hC Y_X12_numberOf I_X12_numberOf k_1307 ⟨by decide, by decide⟩ h0 (ci := 11) (by decide) rfl dX12_lineOf_71 rfl rfl rfl (Nat.le_of_ble_eq_true rfl) ⟨Nat.zero_le _, Nat.zero_le _⟩ hM (fun c hc => c_X12_numberOf (xE X) a0 h0 (((y3 * (c5 a0 10)) - (y4 * (c5 a0 9)))) (((y4 * (c5 a0 8)) - (y2 * (c5 a0 10)))) (((y2 * (c5 a0 9)) - (y3 * (c5 a0 8)))) c hc) (fun c6 hM => ?_)
  cases hM
  exact g_reti hR dX12_lineOf_74 rfl
def MX12_areOnLine (σ : Sto) (a0 : Nat) (a1 : Int32) (a2 : Int32) (a3 : Int32) : Option (Int32 × Sto) :=
  Option.bind (MX12_lineOf σ a0 a1 a2) fun c1 =>
  Option.bind (MX12_isOnLine c1.2 a0 a3 c1.1) fun c2 =>
  zr c2.1 (some (c2.1, c2.2))
set_option maxHeartbeats 4000000 in
set_option maxRecDepth 100000 in
theorem c_X12_areOnLine (E : EX) {n : Nat} {ρ : Rho} {σ : Sto} (a0 : Nat) (h0 : Sh n a0 11) (a1 : Int32) (a2 : Int32) (a3 : Int32) (res : Int32 × Sto) (hM : MX12_areOnLine σ a0 a1 a2 a3 = some res) : CTi E yX12_areOnLine cX12_areOnLine 4 (some .boolean) 3 [.ref (eb E + a0), .int a1, .int a2, .int a3] n σ ρ res.1 res.2 ρ := by
  refine ct_i (by decide +kernel) rfl (Nat.le_of_ble_eq_true rfl) (fun X hE hml hC hR => ?_)
  subst hE
  show G X 0 0 n σ ρ 0 [(0, vr X a0), (1, .int a1), (2, .int a2), (3, .int a3)] []
  replace hC : Cx X cX12_areOnLine RX12 3 := hC
  unfold MX12_areOnLine at hM
  refine g_aload_n hC dX12_areOnLine_0 rfl 0 rfl ?_
  refine g_iload_n hC dX12_areOnLine_1 rfl 3 rfl ?_
  refine g_aload_n hC dX12_areOnLine_2 rfl 0 rfl ?_
  refine g_iload_n hC dX12_areOnLine_3 rfl 1 rfl ?_
  refine g_iload_n hC dX12_areOnLine_4 rfl 2 rfl ?_
  refine g_callVi (As := [.int a1, .int a2]) (st' := [.int a3, vr X a0]) (k := a0) (L' := 2) hC Y_X12_lineOf I_X12_lineOf k_1303 ⟨by decide, by decide⟩ h0 (ci := 11) (by decide) rfl dX12_areOnLine_5 rfl rfl rfl (Nat.le_of_ble_eq_true rfl) ⟨Nat.zero_le _, Nat.zero_le _⟩ hM (fun c hc => c_X12_lineOf (xE X) a0 h0 a1 a2 c hc) (fun c1 hM => ?_)
  refine g_callVi (As := [.int a3, .int c1.1]) (st' := []) (k := a0) (L' := 1) hC Y_X12_isOnLine I_X12_isOnLine k_1235 ⟨by decide, by decide⟩ h0 (ci := 11) (by decide) rfl dX12_areOnLine_8 rfl rfl rfl (Nat.le_of_ble_eq_true rfl) ⟨Nat.zero_le _, Nat.zero_le _⟩ hM (fun c hc => c_X12_isOnLine (xE X) a0 h0 a3 c1.1 c hc) (fun c2 hM => ?_)
  exact g_retz hM dX12_areOnLine_11 rfl (fun h => by cases h; exact hR)
def BX12_lined_118 (ρ : Rho) (a0 : Nat) (rec : Sto → Int32 → Int32 → Int32 → Int32 → Int32 → Option (Int32 × Sto)) (k125 : Sto → Int32 → Int32 → Int32 → Int32 → Option (Int32 × Sto)) (σ : Sto) (v1 : Int32) (v2 : Int32) (v4 : Int32) (v5 : Int32) (t0 : Int32) : Option (Int32 × Sto) :=
  bn t0 fun y1 =>
  bn (v5 + (1 : Int32)) fun y2 =>
  rec σ v1 v2 y1 v4 y2
set_option maxHeartbeats 4000000 in
set_option maxRecDepth 100000 in
theorem bX12_lined_118 {X : CX} {n : Nat} {ρ : Rho} {res : Int32 × Sto} (hC : Cx X cX12_lined RX12 4) (hml : (xc X).maxLocals = 6) (hR : RtT (some .int) X cX12_lined n res.1 res.2 ρ) (a0 : Nat) (h0 : Sh n a0 11) (rec : Sto → Int32 → Int32 → Int32 → Int32 → Int32 → Option (Int32 × Sto)) (ih : ∀ (σ : Sto) (v1 : Int32) (v2 : Int32) (v3 : Int32) (v4 : Int32) (v5 : Int32), rec σ v1 v2 v3 v4 v5 = some res → G X 0 0 n σ ρ 49 [(0, vr X a0), (1, .int v1), (2, .int v2), (3, .int v3), (4, .int v4), (5, .int v5)] []) (k125 : Sto → Int32 → Int32 → Int32 → Int32 → Option (Int32 × Sto)) (hk125 : ∀ (σ : Sto) (v1 : Int32) (v2 : Int32) (v3 : Int32) (v4 : Int32), k125 σ v1 v2 v3 v4 = some res → G X 0 0 n σ ρ 125 [(0, vr X a0), (1, .int v1), (2, .int v2), (3, .int v3), (4, .int v4)] []) : ∀ (σ : Sto) (v1 : Int32) (v2 : Int32) (v4 : Int32) (v5 : Int32) (t0 : Int32), BX12_lined_118 ρ a0 rec k125 σ v1 v2 v4 v5 t0 = some res → G X 0 0 n σ ρ 118 [(0, vr X a0), (1, .int v1), (2, .int v2), (4, .int v4), (5, .int v5)] [.int t0] := by
  intro σ v1 v2 v4 v5 t0 hM
  unfold BX12_lined_118 at hM
  refine g_istore_n hC (fun y1 => [(3, .int y1), (0, vr X a0), (1, .int v1), (2, .int v2), (4, .int v4), (5, .int v5)]) dX12_lined_118 rfl hM hml (by decide) (fun _ => rfl) (fun y1 hM => ?_)
  refine g_iinc (v := 1) hC (fun y2 => [(5, .int y2), (3, .int y1), (0, vr X a0), (1, .int v1), (2, .int v2), (4, .int v4)]) dX12_lined_119 rfl hM (j := 5) rfl ic_1 hml (by decide) (fun _ => rfl) (fun y2 hM => ?_)
  refine g_goto (tgt := 49) hC dX12_lined_122 rfl (by decide) ?_
  exact g_sub [2, 3, 4, 1, 5, 0] (ih _ _ _ _ _ _ hM) rfl
def BX12_lined_113 (ρ : Rho) (a0 : Nat) (rec : Sto → Int32 → Int32 → Int32 → Int32 → Int32 → Option (Int32 × Sto)) (k125 : Sto → Int32 → Int32 → Int32 → Int32 → Option (Int32 × Sto)) (σ : Sto) (v1 : Int32) (v2 : Int32) (v4 : Int32) (v5 : Int32) : Option (Int32 × Sto) :=
  BX12_lined_118 ρ a0 rec k125 σ v1 v2 v4 v5 ((1 : Int32))
set_option maxHeartbeats 4000000 in
set_option maxRecDepth 100000 in
theorem bX12_lined_113 {X : CX} {n : Nat} {ρ : Rho} {res : Int32 × Sto} (hC : Cx X cX12_lined RX12 4) (hml : (xc X).maxLocals = 6) (hR : RtT (some .int) X cX12_lined n res.1 res.2 ρ) (a0 : Nat) (h0 : Sh n a0 11) (rec : Sto → Int32 → Int32 → Int32 → Int32 → Int32 → Option (Int32 × Sto)) (ih : ∀ (σ : Sto) (v1 : Int32) (v2 : Int32) (v3 : Int32) (v4 : Int32) (v5 : Int32), rec σ v1 v2 v3 v4 v5 = some res → G X 0 0 n σ ρ 49 [(0, vr X a0), (1, .int v1), (2, .int v2), (3, .int v3), (4, .int v4), (5, .int v5)] []) (k125 : Sto → Int32 → Int32 → Int32 → Int32 → Option (Int32 × Sto)) (hk125 : ∀ (σ : Sto) (v1 : Int32) (v2 : Int32) (v3 : Int32) (v4 : Int32), k125 σ v1 v2 v3 v4 = some res → G X 0 0 n σ ρ 125 [(0, vr X a0), (1, .int v1), (2, .int v2), (3, .int v3), (4, .int v4)] []) : ∀ (σ : Sto) (v1 : Int32) (v2 : Int32) (v4 : Int32) (v5 : Int32), BX12_lined_113 ρ a0 rec k125 σ v1 v2 v4 v5 = some res → G X 0 0 n σ ρ 113 [(0, vr X a0), (1, .int v1), (2, .int v2), (4, .int v4), (5, .int v5)] [] := by
  intro σ v1 v2 v4 v5 hM
  unfold BX12_lined_113 at hM
  refine g_iconst (v := 1) hC dX12_lined_113 rfl ic_1 ?_
  refine g_goto (tgt := 118) hC dX12_lined_114 rfl (by decide) ?_
  exact g_sub [0, 1, 2, 3, 4] ((bX12_lined_118 hC hml hR a0 h0 rec ih k125 hk125) _ _ _ _ _ _ hM) rfl
def BX12_lined_117 (ρ : Rho) (a0 : Nat) (rec : Sto → Int32 → Int32 → Int32 → Int32 → Int32 → Option (Int32 × Sto)) (k125 : Sto → Int32 → Int32 → Int32 → Int32 → Option (Int32 × Sto)) (σ : Sto) (v1 : Int32) (v2 : Int32) (v4 : Int32) (v5 : Int32) : Option (Int32 × Sto) :=
  BX12_lined_118 ρ a0 rec k125 σ v1 v2 v4 v5 ((0 : Int32))
set_option maxHeartbeats 4000000 in
set_option maxRecDepth 100000 in
theorem bX12_lined_117 {X : CX} {n : Nat} {ρ : Rho} {res : Int32 × Sto} (hC : Cx X cX12_lined RX12 4) (hml : (xc X).maxLocals = 6) (hR : RtT (some .int) X cX12_lined n res.1 res.2 ρ) (a0 : Nat) (h0 : Sh n a0 11) (rec : Sto → Int32 → Int32 → Int32 → Int32 → Int32 → Option (Int32 × Sto)) (ih : ∀ (σ : Sto) (v1 : Int32) (v2 : Int32) (v3 : Int32) (v4 : Int32) (v5 : Int32), rec σ v1 v2 v3 v4 v5 = some res → G X 0 0 n σ ρ 49 [(0, vr X a0), (1, .int v1), (2, .int v2), (3, .int v3), (4, .int v4), (5, .int v5)] []) (k125 : Sto → Int32 → Int32 → Int32 → Int32 → Option (Int32 × Sto)) (hk125 : ∀ (σ : Sto) (v1 : Int32) (v2 : Int32) (v3 : Int32) (v4 : Int32), k125 σ v1 v2 v3 v4 = some res → G X 0 0 n σ ρ 125 [(0, vr X a0), (1, .int v1), (2, .int v2), (3, .int v3), (4, .int v4)] []) : ∀ (σ : Sto) (v1 : Int32) (v2 : Int32) (v4 : Int32) (v5 : Int32), BX12_lined_117 ρ a0 rec k125 σ v1 v2 v4 v5 = some res → G X 0 0 n σ ρ 117 [(0, vr X a0), (1, .int v1), (2, .int v2), (4, .int v4), (5, .int v5)] [] := by
  intro σ v1 v2 v4 v5 hM
  unfold BX12_lined_117 at hM
  refine g_iconst (v := 0) hC dX12_lined_117 rfl ic_0 ?_
  exact g_sub [0, 1, 2, 3, 4] ((bX12_lined_118 hC hml hR a0 h0 rec ih k125 hk125) _ _ _ _ _ _ hM) rfl
def BX12_lined_125 (ρ : Rho) (a0 : Nat) (rec : Sto → Int32 → Int32 → Int32 → Int32 → Option (Int32 × Sto)) (k131 : Sto → Int32 → Int32 → Int32 → Option (Int32 × Sto)) (σ : Sto) (v1 : Int32) (v2 : Int32) (v3 : Int32) (v4 : Int32) : Option (Int32 × Sto) :=
  bn (v4 + (1 : Int32)) fun y1 =>
  rec σ v1 v2 v3 y1
set_option maxHeartbeats 4000000 in
set_option maxRecDepth 100000 in
theorem bX12_lined_125 {X : CX} {n : Nat} {ρ : Rho} {res : Int32 × Sto} (hC : Cx X cX12_lined RX12 4) (hml : (xc X).maxLocals = 6) (hR : RtT (some .int) X cX12_lined n res.1 res.2 ρ) (a0 : Nat) (h0 : Sh n a0 11) (rec : Sto → Int32 → Int32 → Int32 → Int32 → Option (Int32 × Sto)) (ih : ∀ (σ : Sto) (v1 : Int32) (v2 : Int32) (v3 : Int32) (v4 : Int32), rec σ v1 v2 v3 v4 = some res → G X 0 0 n σ ρ 31 [(0, vr X a0), (1, .int v1), (2, .int v2), (3, .int v3), (4, .int v4)] []) (k131 : Sto → Int32 → Int32 → Int32 → Option (Int32 × Sto)) (hk131 : ∀ (σ : Sto) (v1 : Int32) (v2 : Int32) (v3 : Int32), k131 σ v1 v2 v3 = some res → G X 0 0 n σ ρ 131 [(0, vr X a0), (1, .int v1), (2, .int v2), (3, .int v3)] []) : ∀ (σ : Sto) (v1 : Int32) (v2 : Int32) (v3 : Int32) (v4 : Int32), BX12_lined_125 ρ a0 rec k131 σ v1 v2 v3 v4 = some res → G X 0 0 n σ ρ 125 [(0, vr X a0), (1, .int v1), (2, .int v2), (3, .int v3), (4, .int v4)] [] := by
  intro σ v1 v2 v3 v4 hM
  unfold BX12_lined_125 at hM
  refine g_iinc (v := 1) hC (fun y1 => [(4, .int y1), (0, vr X a0), (1, .int v1), (2, .int v2), (3, .int v3)]) dX12_lined_125 rfl hM (j := 4) rfl ic_1 hml (by decide) (fun _ => rfl) (fun y1 hM => ?_)
  refine g_goto (tgt := 31) hC dX12_lined_128 rfl (by decide) ?_
  exact g_sub [1, 2, 3, 4, 0] (ih _ _ _ _ _ hM) rfl
def FX12_lined_49 (ρ : Rho) (a0 : Nat) (k125 : Sto → Int32 → Int32 → Int32 → Int32 → Option (Int32 × Sto)) (rec : Sto → Int32 → Int32 → Int32 → Int32 → Int32 → Option (Int32 × Sto)) (σ : Sto) (v1 : Int32) (v2 : Int32) (v3 : Int32) (v4 : Int32) (v5 : Int32) : Option (Int32 × Sto) :=
  Option.bind (ρ a0 0) fun j1 =>
  Option.bind (ag σ j1 ((37 : Int32))) fun x2 =>
  if x2 ≤ v5 then
    k125 σ v1 v2 v3 v4
  else
    if v3 = 0 then
      if v4 = v2 then
        BX12_lined_117 ρ a0 rec k125 σ v1 v2 v4 v5
      else
        if v5 = v2 then
          BX12_lined_117 ρ a0 rec k125 σ v1 v2 v4 v5
        else
          Option.bind (ρ a0 0) fun j3 =>
          Option.bind (ag σ j3 (((38 : Int32) + v4))) fun x4 =>
          Option.bind (ρ a0 0) fun j5 =>
          Option.bind (ag σ j5 (((38 : Int32) + v5))) fun x6 =>
          Option.bind (ρ a0 0) fun j7 =>
          Option.bind (ag σ j7 (((38 : Int32) + v2))) fun x8 =>
          Option.bind (MX12_areOnLine σ a0 x4 x6 x8) fun c9 =>
          if c9.1 = 0 then
            BX12_lined_117 ρ a0 rec k125 c9.2 v1 v2 v4 v5
          else
            BX12_lined_113 ρ a0 rec k125 c9.2 v1 v2 v4 v5
    else
      BX12_lined_113 ρ a0 rec k125 σ v1 v2 v4 v5
set_option maxHeartbeats 4000000 in
set_option maxRecDepth 100000 in
theorem bX12_lined_49 {X : CX} {n : Nat} {ρ : Rho} {res : Int32 × Sto} (hC : Cx X cX12_lined RX12 4) (hml : (xc X).maxLocals = 6) (hR : RtT (some .int) X cX12_lined n res.1 res.2 ρ) (a0 : Nat) (h0 : Sh n a0 11) (k125 : Sto → Int32 → Int32 → Int32 → Int32 → Option (Int32 × Sto)) (hk125 : ∀ (σ : Sto) (v1 : Int32) (v2 : Int32) (v3 : Int32) (v4 : Int32), k125 σ v1 v2 v3 v4 = some res → G X 0 0 n σ ρ 125 [(0, vr X a0), (1, .int v1), (2, .int v2), (3, .int v3), (4, .int v4)] []) (fu : Nat) : ∀ (σ : Sto) (v1 : Int32) (v2 : Int32) (v3 : Int32) (v4 : Int32) (v5 : Int32), fixN (fun _ _ _ _ _ _ => none) (FX12_lined_49 ρ a0 k125) fu σ v1 v2 v3 v4 v5 = some res → G X 0 0 n σ ρ 49 [(0, vr X a0), (1, .int v1), (2, .int v2), (3, .int v3), (4, .int v4), (5, .int v5)] [] := by
  refine fixN_ind (P := fun (f : Sto → Int32 → Int32 → Int32 → Int32 → Int32 → Option (Int32 × Sto)) => ∀ (σ : Sto) (v1 : Int32) (v2 : Int32) (v3 : Int32) (v4 : Int32) (v5 : Int32), f σ v1 v2 v3 v4 v5 = some res → G X 0 0 n σ ρ 49 [(0, vr X a0), (1, .int v1), (2, .int v2), (3, .int v3), (4, .int v4), (5, .int v5)] []) ?_ ?_ fu
  · intro σ v1 v2 v3 v4 v5 hM; cases hM
  · intro rec ih σ v1 v2 v3 v4 v5 hM
    unfold FX12_lined_49 at hM
    refine g_iload hC dX12_lined_49 rfl 5 rfl ?_
    refine g_aload_n hC dX12_lined_51 rfl 0 rfl ?_
    refine fg_11_0 hC h0 k_1082 dX12_lined_52 rfl hM (fun j1 hj1 hM => ?_)
    refine g_bipush (v := 37) hC dX12_lined_55 rfl ib_37 ?_
    refine g_iald hC hj1 dX12_lined_57 rfl hM (fun x2 hM => ?_)
    refine g_icmp_ge (tgt := 125) hC dX12_lined_58 rfl (by decide) hM (fun hM => ?_) (fun hM => ?_)
    · exact g_sub [0, 1, 2, 3, 4] (hk125 _ _ _ _ _ hM) rfl
    · refine g_iload_n hC dX12_lined_61 rfl 3 rfl ?_
      refine g_if_ne (tgt := 113) hC dX12_lined_62 rfl (by decide) hM (fun hM => ?_) (fun hM => ?_)
      · exact g_sub [0, 1, 2, 4, 5] ((bX12_lined_113 hC hml hR a0 h0 rec ih k125 hk125) _ _ _ _ _ hM) rfl
      · refine g_iload hC dX12_lined_65 rfl 4 rfl ?_
        refine g_iload_n hC dX12_lined_67 rfl 2 rfl ?_
        refine g_icmp_eq (tgt := 117) hC dX12_lined_68 rfl (by decide) hM (fun hM => ?_) (fun hM => ?_)
        · exact g_sub [0, 1, 2, 4, 5] ((bX12_lined_117 hC hml hR a0 h0 rec ih k125 hk125) _ _ _ _ _ hM) rfl
        · refine g_iload hC dX12_lined_71 rfl 5 rfl ?_
          refine g_iload_n hC dX12_lined_73 rfl 2 rfl ?_
          refine g_icmp_eq (tgt := 117) hC dX12_lined_74 rfl (by decide) hM (fun hM => ?_) (fun hM => ?_)
          · exact g_sub [0, 1, 2, 4, 5] ((bX12_lined_117 hC hml hR a0 h0 rec ih k125 hk125) _ _ _ _ _ hM) rfl
          · refine g_aload_n hC dX12_lined_77 rfl 0 rfl ?_
            refine g_aload_n hC dX12_lined_78 rfl 0 rfl ?_
            refine fg_11_0 hC h0 k_1082 dX12_lined_79 rfl hM (fun j3 hj3 hM => ?_)
            refine g_bipush (v := 38) hC dX12_lined_82 rfl ib_38 ?_
            refine g_iload hC dX12_lined_84 rfl 4 rfl ?_
            refine g_iadd hC dX12_lined_86 rfl ?_
            refine g_iald hC hj3 dX12_lined_87 rfl hM (fun x4 hM => ?_)
            refine g_aload_n hC dX12_lined_88 rfl 0 rfl ?_
            refine fg_11_0 hC h0 k_1082 dX12_lined_89 rfl hM (fun j5 hj5 hM => ?_)
            refine g_bipush (v := 38) hC dX12_lined_92 rfl ib_38 ?_
            refine g_iload hC dX12_lined_94 rfl 5 rfl ?_
            refine g_iadd hC dX12_lined_96 rfl ?_
            refine g_iald hC hj5 dX12_lined_97 rfl hM (fun x6 hM => ?_)
            refine g_aload_n hC dX12_lined_98 rfl 0 rfl ?_
            refine fg_11_0 hC h0 k_1082 dX12_lined_99 rfl hM (fun j7 hj7 hM => ?_)
            refine g_bipush (v := 38) hC dX12_lined_102 rfl ib_38 ?_
            refine g_iload_n hC dX12_lined_104 rfl 2 rfl ?_
            refine g_iadd hC dX12_lined_105 rfl ?_
            refine g_iald hC hj7 dX12_lined_106 rfl hM (fun x8 hM => ?_)
            refine g_callVi (As := [.int x4, .int x6, .int x8]) (st' := []) (k := a0) (L' := 3) hC Y_X12_areOnLine I_X12_areOnLine k_1299 ⟨by decide, by decide⟩ h0 (ci := 11) (by decide) rfl dX12_lined_107 rfl rfl rfl (Nat.le_of_ble_eq_true rfl) ⟨Nat.zero_le _, Nat.zero_le _⟩ hM (fun c hc => c_X12_areOnLine (xE X) a0 h0 x4 x6 x8 c hc) (fun c9 hM => ?_)
            refine g_if_eq (tgt := 117) hC dX12_lined_110 rfl (by decide) hM (fun hM => ?_) (fun hM => ?_)
            · exact g_sub [0, 1, 2, 4, 5] ((bX12_lined_117 hC hml hR a0 h0 rec ih k125 hk125) _ _ _ _ _ hM) rfl
            · exact g_sub [0, 1, 2, 4, 5] ((bX12_lined_113 hC hml hR a0 h0 rec ih k125 hk125) _ _ _ _ _ hM) rfl
def BX12_lined_141 (ρ : Rho) (a0 : Nat) (rec : Sto → Int32 → Int32 → Option (Int32 × Sto)) (σ : Sto) (v2 : Int32) (t0 : Int32) (t1 : Int32) : Option (Int32 × Sto) :=
  bn ((t0 + t1)) fun y1 =>
  bn (v2 + (1 : Int32)) fun y2 =>
  rec σ y1 y2
set_option maxHeartbeats 4000000 in
set_option maxRecDepth 100000 in
theorem bX12_lined_141 {X : CX} {n : Nat} {ρ : Rho} {res : Int32 × Sto} (hC : Cx X cX12_lined RX12 4) (hml : (xc X).maxLocals = 6) (hR : RtT (some .int) X cX12_lined n res.1 res.2 ρ) (a0 : Nat) (h0 : Sh n a0 11) (rec : Sto → Int32 → Int32 → Option (Int32 × Sto)) (ih : ∀ (σ : Sto) (v1 : Int32) (v2 : Int32), rec σ v1 v2 = some res → G X 0 0 n σ ρ 15 [(0, vr X a0), (1, .int v1), (2, .int v2)] []) : ∀ (σ : Sto) (v2 : Int32) (t0 : Int32) (t1 : Int32), BX12_lined_141 ρ a0 rec σ v2 t0 t1 = some res → G X 0 0 n σ ρ 141 [(0, vr X a0), (2, .int v2)] [.int t1, .int t0] := by
  intro σ v2 t0 t1 hM
  unfold BX12_lined_141 at hM
  refine g_iadd hC dX12_lined_141 rfl ?_
  refine g_istore_n hC (fun y1 => [(1, .int y1), (0, vr X a0), (2, .int v2)]) dX12_lined_142 rfl hM hml (by decide) (fun _ => rfl) (fun y1 hM => ?_)
  refine g_iinc (v := 1) hC (fun y2 => [(2, .int y2), (1, .int y1), (0, vr X a0)]) dX12_lined_143 rfl hM (j := 2) rfl ic_1 hml (by decide) (fun _ => rfl) (fun y2 hM => ?_)
  refine g_goto (tgt := 15) hC dX12_lined_146 rfl (by decide) ?_
  exact g_sub [2, 1, 0] (ih _ _ _ hM) rfl
def BX12_lined_131 (ρ : Rho) (a0 : Nat) (rec : Sto → Int32 → Int32 → Option (Int32 × Sto)) (σ : Sto) (v1 : Int32) (v2 : Int32) (v3 : Int32) : Option (Int32 × Sto) :=
  if v3 = 0 then
    BX12_lined_141 ρ a0 rec σ v2 v1 ((0 : Int32))
  else
    BX12_lined_141 ρ a0 rec σ v2 v1 ((1 : Int32))
set_option maxHeartbeats 4000000 in
set_option maxRecDepth 100000 in
theorem bX12_lined_131 {X : CX} {n : Nat} {ρ : Rho} {res : Int32 × Sto} (hC : Cx X cX12_lined RX12 4) (hml : (xc X).maxLocals = 6) (hR : RtT (some .int) X cX12_lined n res.1 res.2 ρ) (a0 : Nat) (h0 : Sh n a0 11) (rec : Sto → Int32 → Int32 → Option (Int32 × Sto)) (ih : ∀ (σ : Sto) (v1 : Int32) (v2 : Int32), rec σ v1 v2 = some res → G X 0 0 n σ ρ 15 [(0, vr X a0), (1, .int v1), (2, .int v2)] []) : ∀ (σ : Sto) (v1 : Int32) (v2 : Int32) (v3 : Int32), BX12_lined_131 ρ a0 rec σ v1 v2 v3 = some res → G X 0 0 n σ ρ 131 [(0, vr X a0), (1, .int v1), (2, .int v2), (3, .int v3)] [] := by
  intro σ v1 v2 v3 hM
  unfold BX12_lined_131 at hM
  refine g_iload_n hC dX12_lined_131 rfl 1 rfl ?_
  refine g_iload_n hC dX12_lined_132 rfl 3 rfl ?_
  refine g_if_eq (tgt := 140) hC dX12_lined_133 rfl (by decide) hM (fun hM => ?_) (fun hM => ?_)
  · refine g_iconst (v := 0) hC dX12_lined_140 rfl ic_0 ?_
    exact g_sub [0, 2] ((bX12_lined_141 hC hml hR a0 h0 rec ih ) _ _ _ _ hM) rfl
  · refine g_iconst (v := 1) hC dX12_lined_136 rfl ic_1 ?_
    refine g_goto (tgt := 141) hC dX12_lined_137 rfl (by decide) ?_
    exact g_sub [0, 2] ((bX12_lined_141 hC hml hR a0 h0 rec ih ) _ _ _ _ hM) rfl
def FX12_lined_31 (ρ : Rho) (a0 : Nat) (k131 : Sto → Int32 → Int32 → Int32 → Option (Int32 × Sto)) (rec : Sto → Int32 → Int32 → Int32 → Int32 → Option (Int32 × Sto)) (σ : Sto) (v1 : Int32) (v2 : Int32) (v3 : Int32) (v4 : Int32) : Option (Int32 × Sto) :=
  Option.bind (ρ a0 0) fun j1 =>
  Option.bind (ag σ j1 ((37 : Int32))) fun x2 =>
  if x2 ≤ v4 then
    k131 σ v1 v2 v3
  else
    bn ((v4 + (1 : Int32))) fun y3 =>
    fixN (fun _ _ _ _ _ _ => none) (FX12_lined_49 ρ a0 (BX12_lined_125 ρ a0 rec k131)) FU σ v1 v2 v3 v4 y3
set_option maxHeartbeats 4000000 in
set_option maxRecDepth 100000 in
theorem bX12_lined_31 {X : CX} {n : Nat} {ρ : Rho} {res : Int32 × Sto} (hC : Cx X cX12_lined RX12 4) (hml : (xc X).maxLocals = 6) (hR : RtT (some .int) X cX12_lined n res.1 res.2 ρ) (a0 : Nat) (h0 : Sh n a0 11) (k131 : Sto → Int32 → Int32 → Int32 → Option (Int32 × Sto)) (hk131 : ∀ (σ : Sto) (v1 : Int32) (v2 : Int32) (v3 : Int32), k131 σ v1 v2 v3 = some res → G X 0 0 n σ ρ 131 [(0, vr X a0), (1, .int v1), (2, .int v2), (3, .int v3)] []) (fu : Nat) : ∀ (σ : Sto) (v1 : Int32) (v2 : Int32) (v3 : Int32) (v4 : Int32), fixN (fun _ _ _ _ _ => none) (FX12_lined_31 ρ a0 k131) fu σ v1 v2 v3 v4 = some res → G X 0 0 n σ ρ 31 [(0, vr X a0), (1, .int v1), (2, .int v2), (3, .int v3), (4, .int v4)] [] := by
  refine fixN_ind (P := fun (f : Sto → Int32 → Int32 → Int32 → Int32 → Option (Int32 × Sto)) => ∀ (σ : Sto) (v1 : Int32) (v2 : Int32) (v3 : Int32) (v4 : Int32), f σ v1 v2 v3 v4 = some res → G X 0 0 n σ ρ 31 [(0, vr X a0), (1, .int v1), (2, .int v2), (3, .int v3), (4, .int v4)] []) ?_ ?_ fu
  · intro σ v1 v2 v3 v4 hM; cases hM
  · intro rec ih σ v1 v2 v3 v4 hM
    unfold FX12_lined_31 at hM
    refine g_iload hC dX12_lined_31 rfl 4 rfl ?_
    refine g_aload_n hC dX12_lined_33 rfl 0 rfl ?_
    refine fg_11_0 hC h0 k_1082 dX12_lined_34 rfl hM (fun j1 hj1 hM => ?_)
    refine g_bipush (v := 37) hC dX12_lined_37 rfl ib_37 ?_
    refine g_iald hC hj1 dX12_lined_39 rfl hM (fun x2 hM => ?_)
    refine g_icmp_ge (tgt := 131) hC dX12_lined_40 rfl (by decide) hM (fun hM => ?_) (fun hM => ?_)
    · exact g_sub [0, 1, 2, 3] (hk131 _ _ _ _ hM) rfl
    · refine g_iload hC dX12_lined_43 rfl 4 rfl ?_
      refine g_iconst (v := 1) hC dX12_lined_45 rfl ic_1 ?_
      refine g_iadd hC dX12_lined_46 rfl ?_
      refine g_istore hC (fun y3 => [(5, .int y3), (0, vr X a0), (1, .int v1), (2, .int v2), (3, .int v3), (4, .int v4)]) dX12_lined_47 rfl hM hml (by decide) (fun _ => rfl) (fun y3 hM => ?_)
      exact g_sub [1, 2, 3, 4, 5, 0] ((bX12_lined_49 hC hml hR a0 h0 (BX12_lined_125 ρ a0 rec k131) (bX12_lined_125 hC hml hR a0 h0 rec ih k131 hk131) FU) _ _ _ _ _ _ hM) rfl
def FX12_lined_15 (ρ : Rho) (a0 : Nat) (rec : Sto → Int32 → Int32 → Option (Int32 × Sto)) (σ : Sto) (v1 : Int32) (v2 : Int32) : Option (Int32 × Sto) :=
  Option.bind (ρ a0 0) fun j1 =>
  Option.bind (ag σ j1 ((37 : Int32))) fun x2 =>
  if x2 ≤ v2 then
    some (v1, σ)
  else
    bn ((0 : Int32)) fun y3 =>
    bn ((0 : Int32)) fun y4 =>
    fixN (fun _ _ _ _ _ => none) (FX12_lined_31 ρ a0 (BX12_lined_131 ρ a0 rec)) FU σ v1 v2 y3 y4
set_option maxHeartbeats 4000000 in
set_option maxRecDepth 100000 in
theorem bX12_lined_15 {X : CX} {n : Nat} {ρ : Rho} {res : Int32 × Sto} (hC : Cx X cX12_lined RX12 4) (hml : (xc X).maxLocals = 6) (hR : RtT (some .int) X cX12_lined n res.1 res.2 ρ) (a0 : Nat) (h0 : Sh n a0 11) (fu : Nat) : ∀ (σ : Sto) (v1 : Int32) (v2 : Int32), fixN (fun _ _ _ => none) (FX12_lined_15 ρ a0) fu σ v1 v2 = some res → G X 0 0 n σ ρ 15 [(0, vr X a0), (1, .int v1), (2, .int v2)] [] := by
  refine fixN_ind (P := fun (f : Sto → Int32 → Int32 → Option (Int32 × Sto)) => ∀ (σ : Sto) (v1 : Int32) (v2 : Int32), f σ v1 v2 = some res → G X 0 0 n σ ρ 15 [(0, vr X a0), (1, .int v1), (2, .int v2)] []) ?_ ?_ fu
  · intro σ v1 v2 hM; cases hM
  · intro rec ih σ v1 v2 hM
    unfold FX12_lined_15 at hM
    refine g_iload_n hC dX12_lined_15 rfl 2 rfl ?_
    refine g_aload_n hC dX12_lined_16 rfl 0 rfl ?_
    refine fg_11_0 hC h0 k_1082 dX12_lined_17 rfl hM (fun j1 hj1 hM => ?_)
    refine g_bipush (v := 37) hC dX12_lined_20 rfl ib_37 ?_
    refine g_iald hC hj1 dX12_lined_22 rfl hM (fun x2 hM => ?_)
    refine g_icmp_ge (tgt := 149) hC dX12_lined_23 rfl (by decide) hM (fun hM => ?_) (fun hM => ?_)
    · refine g_iload_n hC dX12_lined_149 rfl 1 rfl ?_
      cases hM
      exact g_reti hR dX12_lined_150 rfl
    · refine g_iconst (v := 0) hC dX12_lined_26 rfl ic_0 ?_
      refine g_istore_n hC (fun y3 => [(3, .int y3), (0, vr X a0), (1, .int v1), (2, .int v2)]) dX12_lined_27 rfl hM hml (by decide) (fun _ => rfl) (fun y3 hM => ?_)
      refine g_iconst (v := 0) hC dX12_lined_28 rfl ic_0 ?_
      refine g_istore hC (fun y4 => [(4, .int y4), (3, .int y3), (0, vr X a0), (1, .int v1), (2, .int v2)]) dX12_lined_29 rfl hM hml (by decide) (fun _ => rfl) (fun y4 hM => ?_)
      exact g_sub [2, 3, 4, 1, 0] ((bX12_lined_31 hC hml hR a0 h0 (BX12_lined_131 ρ a0 rec) (bX12_lined_131 hC hml hR a0 h0 rec ih ) FU) _ _ _ _ _ hM) rfl
def MX12_lined (σ : Sto) (ρ : Rho) (a0 : Nat) : Option (Int32 × Sto) :=
  Option.bind (ρ a0 0) fun j1 =>
  Option.bind (ag σ j1 ((36 : Int32))) fun x2 =>
  bn (su σ a0 7 x2) fun σ3 =>
  bn ((0 : Int32)) fun y4 =>
  bn ((0 : Int32)) fun y5 =>
  fixN (fun _ _ _ => none) (FX12_lined_15 ρ a0) FU σ3 y4 y5
set_option maxHeartbeats 4000000 in
set_option maxRecDepth 100000 in
theorem c_X12_lined (E : EX) {n : Nat} {σ : Sto} {ρ : Rho} (a0 : Nat) (h0 : Sh n a0 11) (res : Int32 × Sto) (hM : MX12_lined σ ρ a0 = some res) : CTi E yX12_lined cX12_lined 6 (some .int) 4 [.ref (eb E + a0)] n σ ρ res.1 res.2 ρ := by
  refine ct_i (by decide +kernel) rfl (Nat.le_of_ble_eq_true rfl) (fun X hE hml hC hR => ?_)
  subst hE
  show G X 0 0 n σ ρ 0 [(0, vr X a0)] []
  replace hC : Cx X cX12_lined RX12 4 := hC
  unfold MX12_lined at hM
  refine g_aload_n hC dX12_lined_0 rfl 0 rfl ?_
  refine g_aload_n hC dX12_lined_1 rfl 0 rfl ?_
  refine fg_11_0 hC h0 k_1082 dX12_lined_2 rfl hM (fun j1 hj1 hM => ?_)
  refine g_bipush (v := 36) hC dX12_lined_5 rfl ib_36 ?_
  refine g_iald hC hj1 dX12_lined_7 rfl hM (fun x2 hM => ?_)
  refine fp_11_7 hC h0 k_1089 dX12_lined_8 rfl hM (fun σ3 hM => ?_)
  refine g_iconst (v := 0) hC dX12_lined_11 rfl ic_0 ?_
  refine g_istore_n hC (fun y4 => [(1, .int y4), (0, vr X a0)]) dX12_lined_12 rfl hM hml (by decide) (fun _ => rfl) (fun y4 hM => ?_)
  refine g_iconst (v := 0) hC dX12_lined_13 rfl ic_0 ?_
  refine g_istore_n hC (fun y5 => [(2, .int y5), (1, .int y4), (0, vr X a0)]) dX12_lined_14 rfl hM hml (by decide) (fun _ => rfl) (fun y5 hM => ?_)
  exact g_sub [2, 1, 0] ((bX12_lined_15 hC hml hR a0 h0  FU) _ _ _ hM) rfl
def MX12_count (σ : Sto) (ρ : Rho) (a0 : Nat) (a1 : Int32) : Option (Int32 × Sto) :=
  Option.bind (ρ a0 0) fun j1 =>
  Option.bind (ag σ j1 ((36 : Int32))) fun x2 =>
  bn (su σ a0 7 x2) fun σ3 =>
  if a1 = (0 : Int32) then
    some ((σ3 a0 7), σ3)
  else
  if a1 = (1 : Int32) then
    Option.bind (MX12_places σ3 a0) fun c4 =>
    some (c4, σ3)
  else
  if a1 = (2 : Int32) then
    Option.bind (ρ a0 0) fun j5 =>
    Option.bind (ag σ3 j5 ((37 : Int32))) fun x6 =>
    some (x6, σ3)
  else
  if a1 = (3 : Int32) then
    Option.bind (MX12_rankWith σ3 ρ a0 ((-1 : Int32))) fun c7 =>
    some (((6 : Int32) - c7.1), c7.2)
  else
  if a1 = (4 : Int32) then
    some ((σ3 a0 6), σ3)
  else
  if a1 = (5 : Int32) then
    some ((σ3 a0 3), σ3)
  else
  if a1 = (6 : Int32) then
    Option.bind (MX12_proper σ3 ρ a0) fun c8 =>
    some (c8.1, c8.2)
  else
  if a1 = (7 : Int32) then
    Option.bind (MX12_lined σ3 ρ a0) fun c9 =>
    some (c9.1, c9.2)
  else
  some ((-1 : Int32), σ3)
set_option maxHeartbeats 4000000 in
set_option maxRecDepth 100000 in
theorem c_X12_count (E : EX) {n : Nat} {σ : Sto} {ρ : Rho} (a0 : Nat) (h0 : Sh n a0 11) (a1 : Int32) (res : Int32 × Sto) (hM : MX12_count σ ρ a0 a1 = some res) : CTi E yX12_count cX12_count 2 (some .int) 5 [.ref (eb E + a0), .int a1] n σ ρ res.1 res.2 ρ := by
  refine ct_i (by decide +kernel) rfl (Nat.le_of_ble_eq_true rfl) (fun X hE hml hC hR => ?_)
  subst hE
  show G X 0 0 n σ ρ 0 [(0, vr X a0), (1, .int a1)] []
  replace hC : Cx X cX12_count RX12 5 := hC
  unfold MX12_count at hM
  refine g_aload_n hC dX12_count_0 rfl 0 rfl ?_
  refine g_aload_n hC dX12_count_1 rfl 0 rfl ?_
  refine fg_11_0 hC h0 k_1082 dX12_count_2 rfl hM (fun j1 hj1 hM => ?_)
  refine g_bipush (v := 36) hC dX12_count_5 rfl ib_36 ?_
  refine g_iald hC hj1 dX12_count_7 rfl hM (fun x2 hM => ?_)
  refine fp_11_7 hC h0 k_1089 dX12_count_8 rfl hM (fun σ3 hM => ?_)
  refine g_iload_n hC dX12_count_11 rfl 1 rfl ?_
  refine g_ite hM (fun hx0 hM => ?_) (fun hx0 hM => ?_)
  · refine g_tswK (tgt := 60) hC dX12_count_12 rfl hx0 (z := 0) (by decide) (by decide) (by decide) rfl (by decide) ?_
    refine g_aload_n hC dX12_count_60 rfl 0 rfl ?_
    refine fg_11_7 hC h0 k_1089 dX12_count_61 rfl ?_
    cases hM
    exact g_reti hR dX12_count_64 rfl
  refine g_ite hM (fun hx1 hM => ?_) (fun hx1 hM => ?_)
  · refine g_tswK (tgt := 65) hC dX12_count_12 rfl hx1 (z := 1) (by decide) (by decide) (by decide) rfl (by decide) ?_
    refine g_aload_n hC dX12_count_65 rfl 0 rfl ?_
    refine g_callVi (As := []) (st' := []) (k := a0) (L' := 0) hC Y_X12_places I_X12_places k_1227 ⟨by decide, by decide⟩ h0 (ci := 11) (by decide) rfl dX12_count_66 rfl rfl rfl (Nat.le_of_ble_eq_true rfl) ⟨Nat.zero_le _, Nat.zero_le _⟩ hM (fun c hc => c_X12_places (xE X) a0 h0 c hc) (fun c4 hM => ?_)
    cases hM
    exact g_reti hR dX12_count_69 rfl
  refine g_ite hM (fun hx2 hM => ?_) (fun hx2 hM => ?_)
  · refine g_tswK (tgt := 70) hC dX12_count_12 rfl hx2 (z := 2) (by decide) (by decide) (by decide) rfl (by decide) ?_
    refine g_aload_n hC dX12_count_70 rfl 0 rfl ?_
    refine fg_11_0 hC h0 k_1082 dX12_count_71 rfl hM (fun j5 hj5 hM => ?_)
    refine g_bipush (v := 37) hC dX12_count_74 rfl ib_37 ?_
    refine g_iald hC hj5 dX12_count_76 rfl hM (fun x6 hM => ?_)
    cases hM
    exact g_reti hR dX12_count_77 rfl
  refine g_ite hM (fun hx3 hM => ?_) (fun hx3 hM => ?_)
  · refine g_tswK (tgt := 78) hC dX12_count_12 rfl hx3 (z := 3) (by decide) (by decide) (by decide) rfl (by decide) ?_
    refine g_bipush (v := 6) hC dX12_count_78 rfl ib_6 ?_
    refine g_aload_n hC dX12_count_80 rfl 0 rfl ?_
    refine g_iconst (v := -1) hC dX12_count_81 rfl ic_m1 ?_
    refine g_callVi (As := [.int ((-1 : Int32))]) (st' := [.int ((6 : Int32))]) (k := a0) (L' := 2) hC Y_X12_rankWith I_X12_rankWith k_1259 ⟨by decide, by decide⟩ h0 (ci := 11) (by decide) rfl dX12_count_82 rfl rfl rfl (Nat.le_of_ble_eq_true rfl) ⟨Nat.zero_le _, Nat.zero_le _⟩ hM (fun c hc => c_X12_rankWith (xE X) a0 h0 ((-1 : Int32)) c hc) (fun c7 hM => ?_)
    refine g_isub hC dX12_count_85 rfl ?_
    obtain rfl := Option.some.inj hM
    exact g_reti hR dX12_count_86 rfl
  refine g_ite hM (fun hx4 hM => ?_) (fun hx4 hM => ?_)
  · refine g_tswK (tgt := 87) hC dX12_count_12 rfl hx4 (z := 4) (by decide) (by decide) (by decide) rfl (by decide) ?_
    refine g_aload_n hC dX12_count_87 rfl 0 rfl ?_
    refine fg_11_6 hC h0 k_1088 dX12_count_88 rfl ?_
    cases hM
    exact g_reti hR dX12_count_91 rfl
  refine g_ite hM (fun hx5 hM => ?_) (fun hx5 hM => ?_)
  · refine g_tswK (tgt := 92) hC dX12_count_12 rfl hx5 (z := 5) (by decide) (by decide) (by decide) rfl (by decide) ?_
    refine g_aload_n hC dX12_count_92 rfl 0 rfl ?_
    refine fg_11_3 hC h0 k_1085 dX12_count_93 rfl ?_
    cases hM
    exact g_reti hR dX12_count_96 rfl
  refine g_ite hM (fun hx6 hM => ?_) (fun hx6 hM => ?_)
  · refine g_tswK (tgt := 97) hC dX12_count_12 rfl hx6 (z := 6) (by decide) (by decide) (by decide) rfl (by decide) ?_
    refine g_aload_n hC dX12_count_97 rfl 0 rfl ?_
    refine g_callVi (As := []) (st' := []) (k := a0) (L' := 3) hC Y_X12_proper I_X12_proper k_1291 ⟨by decide, by decide⟩ h0 (ci := 11) (by decide) rfl dX12_count_98 rfl rfl rfl (Nat.le_of_ble_eq_true rfl) ⟨Nat.zero_le _, Nat.zero_le _⟩ hM (fun c hc => c_X12_proper (xE X) a0 h0 c hc) (fun c8 hM => ?_)
    cases hM
    exact g_reti hR dX12_count_101 rfl
  refine g_ite hM (fun hx7 hM => ?_) (fun hx7 hM => ?_)
  · refine g_tswK (tgt := 102) hC dX12_count_12 rfl hx7 (z := 7) (by decide) (by decide) (by decide) rfl (by decide) ?_
    refine g_aload_n hC dX12_count_102 rfl 0 rfl ?_
    refine g_callVi (As := []) (st' := []) (k := a0) (L' := 4) hC Y_X12_lined I_X12_lined k_1295 ⟨by decide, by decide⟩ h0 (ci := 11) (by decide) rfl dX12_count_103 rfl rfl rfl (Nat.le_of_ble_eq_true rfl) ⟨Nat.zero_le _, Nat.zero_le _⟩ hM (fun c hc => c_X12_lined (xE X) a0 h0 c hc) (fun c9 hM => ?_)
    cases hM
    exact g_reti hR dX12_count_106 rfl
  replace hx0 := lv_neT hx0 (a := 0) (by decide)
  replace hx1 := lv_neT hx1 (a := 1) (by decide)
  replace hx2 := lv_neT hx2 (a := 2) (by decide)
  replace hx3 := lv_neT hx3 (a := 3) (by decide)
  replace hx4 := lv_neT hx4 (a := 4) (by decide)
  replace hx5 := lv_neT hx5 (a := 5) (by decide)
  replace hx6 := lv_neT hx6 (a := 6) (by decide)
  replace hx7 := lv_neT hx7 (a := 7) (by decide)
  refine g_tswD (tgt := 107) hC dX12_count_12 rfl (by omega) (by decide) ?_
  refine g_iconst (v := -1) hC dX12_count_107 rfl ic_m1 ?_
  obtain rfl := Option.some.inj hM
  exact g_reti hR dX12_count_108 rfl
def BX12_conic_136 (ρ : Rho) (a0 : Nat) (a1 : Int32) (a2 : Int32) (σ : Sto) : Option (Int32 × Sto) :=
  Option.bind (MX12_told σ ρ a0 a1 a2) fun c1 =>
  some (c1, σ)
set_option maxHeartbeats 4000000 in
set_option maxRecDepth 100000 in
theorem bX12_conic_136 {X : CX} {n : Nat} {ρ : Rho} {res : Int32 × Sto} (hC : Cx X cX12_conic RX12 6) (hml : (xc X).maxLocals = 3) (hR : RtT (some .int) X cX12_conic n res.1 res.2 ρ) (a0 : Nat) (a1 : Int32) (a2 : Int32) (h0 : Sh n a0 11) : ∀ (σ : Sto), BX12_conic_136 ρ a0 a1 a2 σ = some res → G X 0 0 n σ ρ 136 [(0, vr X a0), (1, .int a1), (2, .int a2)] [] := by
  intro σ hM
  unfold BX12_conic_136 at hM
  refine g_aload_n hC dX12_conic_136 rfl 0 rfl ?_
  refine g_iload_n hC dX12_conic_137 rfl 1 rfl ?_
  refine g_iload_n hC dX12_conic_138 rfl 2 rfl ?_
  refine g_callVi (As := [.int a1, .int a2]) (st' := []) (k := a0) (L' := 0) hC Y_X12_told I_X12_told k_1320 ⟨by decide, by decide⟩ h0 (ci := 11) (by decide) rfl dX12_conic_139 rfl rfl rfl (Nat.le_of_ble_eq_true rfl) ⟨Nat.zero_le _, Nat.zero_le _⟩ hM (fun c hc => c_X12_told (xE X) a0 h0 a1 a2 c hc) (fun c1 hM => ?_)
  cases hM
  exact g_reti hR dX12_conic_142 rfl
def BX12_conic_153 (ρ : Rho) (a0 : Nat) (a1 : Int32) (a2 : Int32) (σ : Sto) : Option (Int32 × Sto) :=
  Option.bind (MX12_kindOf σ ρ a0) fun c1 =>
  if c1.1 = (4 : Int32) then
    Option.bind (MX12_sided c1.2 ρ a0 ((a2 - (7 : Int32)))) fun c2 =>
    some (c2.1, c2.2)
  else
    some ((-1 : Int32), c1.2)
set_option maxHeartbeats 4000000 in
set_option maxRecDepth 100000 in
theorem bX12_conic_153 {X : CX} {n : Nat} {ρ : Rho} {res : Int32 × Sto} (hC : Cx X cX12_conic RX12 6) (hml : (xc X).maxLocals = 3) (hR : RtT (some .int) X cX12_conic n res.1 res.2 ρ) (a0 : Nat) (a1 : Int32) (a2 : Int32) (h0 : Sh n a0 11) : ∀ (σ : Sto), BX12_conic_153 ρ a0 a1 a2 σ = some res → G X 0 0 n σ ρ 153 [(0, vr X a0), (1, .int a1), (2, .int a2)] [] := by
  intro σ hM
  unfold BX12_conic_153 at hM
  refine g_aload_n hC dX12_conic_153 rfl 0 rfl ?_
  refine g_callVi (As := []) (st' := []) (k := a0) (L' := 4) hC Y_X12_kindOf I_X12_kindOf k_1207 ⟨by decide, by decide⟩ h0 (ci := 11) (by decide) rfl dX12_conic_154 rfl rfl rfl (Nat.le_of_ble_eq_true rfl) ⟨Nat.zero_le _, Nat.zero_le _⟩ hM (fun c hc => c_X12_kindOf (xE X) a0 h0 c hc) (fun c1 hM => ?_)
  refine g_iconst (v := 4) hC dX12_conic_157 rfl ic_4 ?_
  refine g_icmp_ne (tgt := 172) hC dX12_conic_158 rfl (by decide) hM (fun hM => ?_) (fun hM => ?_)
  · refine g_iconst (v := -1) hC dX12_conic_172 rfl ic_m1 ?_
    obtain rfl := Option.some.inj hM
    exact g_reti hR dX12_conic_173 rfl
  · refine g_aload_n hC dX12_conic_161 rfl 0 rfl ?_
    refine g_iload_n hC dX12_conic_162 rfl 2 rfl ?_
    refine g_bipush (v := 7) hC dX12_conic_163 rfl ib_7 ?_
    refine g_isub hC dX12_conic_165 rfl ?_
    refine g_callVi (As := [.int ((a2 - (7 : Int32)))]) (st' := []) (k := a0) (L' := 5) hC Y_X12_sided I_X12_sided k_1331 ⟨by decide, by decide⟩ h0 (ci := 11) (by decide) rfl dX12_conic_166 rfl rfl rfl (Nat.le_of_ble_eq_true rfl) ⟨Nat.zero_le _, Nat.zero_le _⟩ hM (fun c hc => c_X12_sided (xE X) a0 h0 ((a2 - (7 : Int32))) c hc) (fun c2 hM => ?_)
    refine g_goto (tgt := 173) hC dX12_conic_169 rfl (by decide) ?_
    cases hM
    exact g_reti hR dX12_conic_173 rfl
def MX12_conic (σ : Sto) (ρ : Rho) (a0 : Nat) (a1 : Int32) (a2 : Int32) : Option (Int32 × Sto) :=
  Option.bind (MX12_isConic a1) fun c1 =>
  if c1 = 0 then
    some ((-2000000000 : Int32), σ)
  else
    Option.bind (MX12_laysConic σ ρ a0 ((0 : Int32)) a1) fun c2 =>
    Option.bind (MX12_isIn a2 ((10 : Int32)) ((15 : Int32))) fun c3 =>
    if c3 = 0 then
      Option.bind (MX12_isIn a2 ((20 : Int32)) ((25 : Int32))) fun c4 =>
      if c4 = 0 then
        if a2 = (0 : Int32) then
          Option.bind (MX12_sort c2 ρ a0 a1) fun c5 =>
          some (c5, c2)
        else
        if a2 = (1 : Int32) then
          Option.bind (MX12_kindOf c2 ρ a0) fun c6 =>
          some (c6.1, c6.2)
        else
        if a2 = (2 : Int32) then
          Option.bind (MX12_rankOf c2 ρ a0) fun c7 =>
          some (c7.1, c7.2)
        else
        if a2 = (3 : Int32) then
          BX12_conic_136 ρ a0 a1 a2 c2
        else
        if a2 = (4 : Int32) then
          BX12_conic_136 ρ a0 a1 a2 c2
        else
        if a2 = (5 : Int32) then
          BX12_conic_136 ρ a0 a1 a2 c2
        else
        if a2 = (6 : Int32) then
          Option.bind (MX12_pointsOn c2 ρ a0) fun c8 =>
          some (c8.1, c8.2)
        else
        if a2 = (7 : Int32) then
          Option.bind (MX12_linesOn c2 ρ a0) fun c9 =>
          some (c9.1, c9.2)
        else
        if a2 = (8 : Int32) then
          BX12_conic_153 ρ a0 a1 a2 c2
        else
        if a2 = (9 : Int32) then
          BX12_conic_153 ρ a0 a1 a2 c2
        else
        some ((-2000000000 : Int32), c2)
      else
        Option.bind (ρ a0 11) fun j10 =>
        Option.bind (ag c2 j10 ((a2 - (20 : Int32)))) fun x11 =>
        some (x11, c2)
    else
      Option.bind (ρ a0 0) fun j12 =>
      Option.bind (ag c2 j12 (((((6 : Int32) * a1) + a2) - (10 : Int32)))) fun x13 =>
      some (x13, c2)
set_option maxHeartbeats 4000000 in
set_option maxRecDepth 100000 in
theorem c_X12_conic (E : EX) {n : Nat} {σ : Sto} {ρ : Rho} (a0 : Nat) (h0 : Sh n a0 11) (a1 : Int32) (a2 : Int32) (res : Int32 × Sto) (hM : MX12_conic σ ρ a0 a1 a2 = some res) : CTi E yX12_conic cX12_conic 3 (some .int) 6 [.ref (eb E + a0), .int a1, .int a2] n σ ρ res.1 res.2 ρ := by
  refine ct_i (by decide +kernel) rfl (Nat.le_of_ble_eq_true rfl) (fun X hE hml hC hR => ?_)
  subst hE
  show G X 0 0 n σ ρ 0 [(0, vr X a0), (1, .int a1), (2, .int a2)] []
  replace hC : Cx X cX12_conic RX12 6 := hC
  unfold MX12_conic at hM
  refine g_iload_n hC dX12_conic_0 rfl 1 rfl ?_
  refine g_callSi (As := [.int a1]) (st' := []) (L' := 1) hC Y_X12_isConic k_1167 k_1166 ⟨by decide, by decide⟩ dX12_conic_1 rfl rfl rfl (Nat.le_of_ble_eq_true rfl) ⟨Nat.zero_le _, Nat.zero_le _⟩ hM (fun c hc => c_X12_isConic (xE X) a1 c hc) (fun c1 hM => ?_)
  refine g_if_ne (tgt := 10) hC dX12_conic_4 rfl (by decide) hM (fun hM => ?_) (fun hM => ?_)
  · refine g_aload_n hC dX12_conic_10 rfl 0 rfl ?_
    refine g_iconst (v := 0) hC dX12_conic_11 rfl ic_0 ?_
    refine g_iload_n hC dX12_conic_12 rfl 1 rfl ?_
    refine g_callVv0 (As := [.int ((0 : Int32)), .int a1]) (st' := []) (k := a0) (L' := 1) hC Y_X12_laysConic I_X12_laysConic k_1199 ⟨by decide, by decide⟩ h0 (ci := 11) (by decide) rfl dX12_conic_13 rfl rfl rfl (Nat.le_of_ble_eq_true rfl) ⟨Nat.zero_le _, Nat.zero_le _⟩ hM (fun c hc => c_X12_laysConic (xE X) a0 h0 ((0 : Int32)) a1 c hc) (fun c2 hM => ?_)
    refine g_iload_n hC dX12_conic_16 rfl 2 rfl ?_
    refine g_bipush (v := 10) hC dX12_conic_17 rfl ib_10 ?_
    refine g_bipush (v := 15) hC dX12_conic_19 rfl ib_15 ?_
    refine g_callSi (As := [.int a2, .int ((10 : Int32)), .int ((15 : Int32))]) (st' := []) (L' := 0) hC Y_X12_isIn k_1170 k_1169 ⟨by decide, by decide⟩ dX12_conic_21 rfl rfl rfl (Nat.le_of_ble_eq_true rfl) ⟨Nat.zero_le _, Nat.zero_le _⟩ hM (fun c hc => c_X12_isIn (xE X) a2 ((10 : Int32)) ((15 : Int32)) c hc) (fun c3 hM => ?_)
    refine g_if_eq (tgt := 42) hC dX12_conic_24 rfl (by decide) hM (fun hM => ?_) (fun hM => ?_)
    · refine g_iload_n hC dX12_conic_42 rfl 2 rfl ?_
      refine g_bipush (v := 20) hC dX12_conic_43 rfl ib_20 ?_
      refine g_bipush (v := 25) hC dX12_conic_45 rfl ib_25 ?_
      refine g_callSi (As := [.int a2, .int ((20 : Int32)), .int ((25 : Int32))]) (st' := []) (L' := 0) hC Y_X12_isIn k_1170 k_1169 ⟨by decide, by decide⟩ dX12_conic_47 rfl rfl rfl (Nat.le_of_ble_eq_true rfl) ⟨Nat.zero_le _, Nat.zero_le _⟩ hM (fun c hc => c_X12_isIn (xE X) a2 ((20 : Int32)) ((25 : Int32)) c hc) (fun c4 hM => ?_)
      refine g_if_eq (tgt := 63) hC dX12_conic_50 rfl (by decide) hM (fun hM => ?_) (fun hM => ?_)
      · refine g_iload_n hC dX12_conic_63 rfl 2 rfl ?_
        refine g_ite hM (fun hx0 hM => ?_) (fun hx0 hM => ?_)
        · refine g_tswK (tgt := 120) hC dX12_conic_64 rfl hx0 (z := 0) (by decide) (by decide) (by decide) rfl (by decide) ?_
          refine g_aload_n hC dX12_conic_120 rfl 0 rfl ?_
          refine g_iload_n hC dX12_conic_121 rfl 1 rfl ?_
          refine g_callVi (As := [.int a1]) (st' := []) (k := a0) (L' := 1) hC Y_X12_sort I_X12_sort k_1316 ⟨by decide, by decide⟩ h0 (ci := 11) (by decide) rfl dX12_conic_122 rfl rfl rfl (Nat.le_of_ble_eq_true rfl) ⟨Nat.zero_le _, Nat.zero_le _⟩ hM (fun c hc => c_X12_sort (xE X) a0 h0 a1 c hc) (fun c5 hM => ?_)
          cases hM
          exact g_reti hR dX12_conic_125 rfl
        refine g_ite hM (fun hx1 hM => ?_) (fun hx1 hM => ?_)
        · refine g_tswK (tgt := 126) hC dX12_conic_64 rfl hx1 (z := 1) (by decide) (by decide) (by decide) rfl (by decide) ?_
          refine g_aload_n hC dX12_conic_126 rfl 0 rfl ?_
          refine g_callVi (As := []) (st' := []) (k := a0) (L' := 4) hC Y_X12_kindOf I_X12_kindOf k_1207 ⟨by decide, by decide⟩ h0 (ci := 11) (by decide) rfl dX12_conic_127 rfl rfl rfl (Nat.le_of_ble_eq_true rfl) ⟨Nat.zero_le _, Nat.zero_le _⟩ hM (fun c hc => c_X12_kindOf (xE X) a0 h0 c hc) (fun c6 hM => ?_)
          cases hM
          exact g_reti hR dX12_conic_130 rfl
        refine g_ite hM (fun hx2 hM => ?_) (fun hx2 hM => ?_)
        · refine g_tswK (tgt := 131) hC dX12_conic_64 rfl hx2 (z := 2) (by decide) (by decide) (by decide) rfl (by decide) ?_
          refine g_aload_n hC dX12_conic_131 rfl 0 rfl ?_
          refine g_callVi (As := []) (st' := []) (k := a0) (L' := 2) hC Y_X12_rankOf I_X12_rankOf k_1211 ⟨by decide, by decide⟩ h0 (ci := 11) (by decide) rfl dX12_conic_132 rfl rfl rfl (Nat.le_of_ble_eq_true rfl) ⟨Nat.zero_le _, Nat.zero_le _⟩ hM (fun c hc => c_X12_rankOf (xE X) a0 h0 c hc) (fun c7 hM => ?_)
          cases hM
          exact g_reti hR dX12_conic_135 rfl
        refine g_ite hM (fun hx3 hM => ?_) (fun hx3 hM => ?_)
        · refine g_tswK (tgt := 136) hC dX12_conic_64 rfl hx3 (z := 3) (by decide) (by decide) (by decide) rfl (by decide) ?_
          exact g_sub [0, 1, 2] ((bX12_conic_136 hC hml hR a0 a1 a2 h0 ) _ hM) rfl
        refine g_ite hM (fun hx4 hM => ?_) (fun hx4 hM => ?_)
        · refine g_tswK (tgt := 136) hC dX12_conic_64 rfl hx4 (z := 4) (by decide) (by decide) (by decide) rfl (by decide) ?_
          exact g_sub [0, 1, 2] ((bX12_conic_136 hC hml hR a0 a1 a2 h0 ) _ hM) rfl
        refine g_ite hM (fun hx5 hM => ?_) (fun hx5 hM => ?_)
        · refine g_tswK (tgt := 136) hC dX12_conic_64 rfl hx5 (z := 5) (by decide) (by decide) (by decide) rfl (by decide) ?_
          exact g_sub [0, 1, 2] ((bX12_conic_136 hC hml hR a0 a1 a2 h0 ) _ hM) rfl
        refine g_ite hM (fun hx6 hM => ?_) (fun hx6 hM => ?_)
        · refine g_tswK (tgt := 143) hC dX12_conic_64 rfl hx6 (z := 6) (by decide) (by decide) (by decide) rfl (by decide) ?_
          refine g_aload_n hC dX12_conic_143 rfl 0 rfl ?_
          refine g_callVi (As := []) (st' := []) (k := a0) (L' := 2) hC Y_X12_pointsOn I_X12_pointsOn k_1327 ⟨by decide, by decide⟩ h0 (ci := 11) (by decide) rfl dX12_conic_144 rfl rfl rfl (Nat.le_of_ble_eq_true rfl) ⟨Nat.zero_le _, Nat.zero_le _⟩ hM (fun c hc => c_X12_pointsOn (xE X) a0 h0 c hc) (fun c8 hM => ?_)
          cases hM
          exact g_reti hR dX12_conic_147 rfl
        refine g_ite hM (fun hx7 hM => ?_) (fun hx7 hM => ?_)
        · refine g_tswK (tgt := 148) hC dX12_conic_64 rfl hx7 (z := 7) (by decide) (by decide) (by decide) rfl (by decide) ?_
          refine g_aload_n hC dX12_conic_148 rfl 0 rfl ?_
          refine g_callVi (As := []) (st' := []) (k := a0) (L' := 3) hC Y_X12_linesOn I_X12_linesOn k_1223 ⟨by decide, by decide⟩ h0 (ci := 11) (by decide) rfl dX12_conic_149 rfl rfl rfl (Nat.le_of_ble_eq_true rfl) ⟨Nat.zero_le _, Nat.zero_le _⟩ hM (fun c hc => c_X12_linesOn (xE X) a0 h0 c hc) (fun c9 hM => ?_)
          cases hM
          exact g_reti hR dX12_conic_152 rfl
        refine g_ite hM (fun hx8 hM => ?_) (fun hx8 hM => ?_)
        · refine g_tswK (tgt := 153) hC dX12_conic_64 rfl hx8 (z := 8) (by decide) (by decide) (by decide) rfl (by decide) ?_
          exact g_sub [0, 1, 2] ((bX12_conic_153 hC hml hR a0 a1 a2 h0 ) _ hM) rfl
        refine g_ite hM (fun hx9 hM => ?_) (fun hx9 hM => ?_)
        · refine g_tswK (tgt := 153) hC dX12_conic_64 rfl hx9 (z := 9) (by decide) (by decide) (by decide) rfl (by decide) ?_
          exact g_sub [0, 1, 2] ((bX12_conic_153 hC hml hR a0 a1 a2 h0 ) _ hM) rfl
        replace hx0 := lv_neT hx0 (a := 0) (by decide)
        replace hx1 := lv_neT hx1 (a := 1) (by decide)
        replace hx2 := lv_neT hx2 (a := 2) (by decide)
        replace hx3 := lv_neT hx3 (a := 3) (by decide)
        replace hx4 := lv_neT hx4 (a := 4) (by decide)
        replace hx5 := lv_neT hx5 (a := 5) (by decide)
        replace hx6 := lv_neT hx6 (a := 6) (by decide)
        replace hx7 := lv_neT hx7 (a := 7) (by decide)
        replace hx8 := lv_neT hx8 (a := 8) (by decide)
        replace hx9 := lv_neT hx9 (a := 9) (by decide)
        refine g_tswD (tgt := 174) hC dX12_conic_64 rfl (by omega) (by decide) ?_
        refine g_ldc hC k_1315 dX12_conic_174 rfl ?_
        obtain rfl := Option.some.inj hM
        exact g_reti hR dX12_conic_176 rfl
      · refine g_aload_n hC dX12_conic_53 rfl 0 rfl ?_
        refine fg_11_11 hC h0 k_1093 dX12_conic_54 rfl hM (fun j10 hj10 hM => ?_)
        refine g_iload_n hC dX12_conic_57 rfl 2 rfl ?_
        refine g_bipush (v := 20) hC dX12_conic_58 rfl ib_20 ?_
        refine g_isub hC dX12_conic_60 rfl ?_
        refine g_iald hC hj10 dX12_conic_61 rfl hM (fun x11 hM => ?_)
        cases hM
        exact g_reti hR dX12_conic_62 rfl
    · refine g_aload_n hC dX12_conic_27 rfl 0 rfl ?_
      refine fg_11_0 hC h0 k_1082 dX12_conic_28 rfl hM (fun j12 hj12 hM => ?_)
      refine g_bipush (v := 6) hC dX12_conic_31 rfl ib_6 ?_
      refine g_iload_n hC dX12_conic_33 rfl 1 rfl ?_
      refine g_imul hC dX12_conic_34 rfl ?_
      refine g_iload_n hC dX12_conic_35 rfl 2 rfl ?_
      refine g_iadd hC dX12_conic_36 rfl ?_
      refine g_bipush (v := 10) hC dX12_conic_37 rfl ib_10 ?_
      refine g_isub hC dX12_conic_39 rfl ?_
      refine g_iald hC hj12 dX12_conic_40 rfl hM (fun x13 hM => ?_)
      cases hM
      exact g_reti hR dX12_conic_41 rfl
  · refine g_ldc hC k_1315 dX12_conic_7 rfl ?_
    obtain rfl := Option.some.inj hM
    exact g_reti hR dX12_conic_9 rfl
def MX12_place (σ : Sto) (ρ : Rho) (a0 : Nat) (a1 : Int32) (a2 : Int32) : Option (Int32 × Sto) :=
  Option.bind (MX12_isPlace σ ρ a0 a1) fun c1 =>
  if c1.1 = 0 then
    some ((-1 : Int32), c1.2)
  else
    Option.bind (MX12_isIn a2 ((0 : Int32)) ((2 : Int32))) fun c2 =>
    if c2 = 0 then
      some ((-1 : Int32), c1.2)
    else
      Option.bind (MX12_laysPlace c1.2 a0 a1) fun c3 =>
      if a2 = 0 then
        some ((c3 a0 8), c3)
      else
        if a2 = (1 : Int32) then
          some ((c3 a0 9), c3)
        else
          some ((c3 a0 10), c3)
set_option maxHeartbeats 4000000 in
set_option maxRecDepth 100000 in
theorem c_X12_place (E : EX) {n : Nat} {σ : Sto} {ρ : Rho} (a0 : Nat) (h0 : Sh n a0 11) (a1 : Int32) (a2 : Int32) (res : Int32 × Sto) (hM : MX12_place σ ρ a0 a1 a2 = some res) : CTi E yX12_place cX12_place 3 (some .int) 2 [.ref (eb E + a0), .int a1, .int a2] n σ ρ res.1 res.2 ρ := by
  refine ct_i (by decide +kernel) rfl (Nat.le_of_ble_eq_true rfl) (fun X hE hml hC hR => ?_)
  subst hE
  show G X 0 0 n σ ρ 0 [(0, vr X a0), (1, .int a1), (2, .int a2)] []
  replace hC : Cx X cX12_place RX12 2 := hC
  unfold MX12_place at hM
  refine g_aload_n hC dX12_place_0 rfl 0 rfl ?_
  refine g_iload_n hC dX12_place_1 rfl 1 rfl ?_
  refine g_callVi (As := [.int a1]) (st' := []) (k := a0) (L' := 1) hC Y_X12_isPlace I_X12_isPlace k_1271 ⟨by decide, by decide⟩ h0 (ci := 11) (by decide) rfl dX12_place_2 rfl rfl rfl (Nat.le_of_ble_eq_true rfl) ⟨Nat.zero_le _, Nat.zero_le _⟩ hM (fun c hc => c_X12_isPlace (xE X) a0 h0 a1 c hc) (fun c1 hM => ?_)
  refine g_if_eq (tgt := 17) hC dX12_place_5 rfl (by decide) hM (fun hM => ?_) (fun hM => ?_)
  · refine g_iconst (v := -1) hC dX12_place_17 rfl ic_m1 ?_
    obtain rfl := Option.some.inj hM
    exact g_reti hR dX12_place_18 rfl
  · refine g_iload_n hC dX12_place_8 rfl 2 rfl ?_
    refine g_iconst (v := 0) hC dX12_place_9 rfl ic_0 ?_
    refine g_iconst (v := 2) hC dX12_place_10 rfl ic_2 ?_
    refine g_callSi (As := [.int a2, .int ((0 : Int32)), .int ((2 : Int32))]) (st' := []) (L' := 0) hC Y_X12_isIn k_1170 k_1169 ⟨by decide, by decide⟩ dX12_place_11 rfl rfl rfl (Nat.le_of_ble_eq_true rfl) ⟨Nat.zero_le _, Nat.zero_le _⟩ hM (fun c hc => c_X12_isIn (xE X) a2 ((0 : Int32)) ((2 : Int32)) c hc) (fun c2 hM => ?_)
    refine g_if_ne (tgt := 19) hC dX12_place_14 rfl (by decide) hM (fun hM => ?_) (fun hM => ?_)
    · refine g_aload_n hC dX12_place_19 rfl 0 rfl ?_
      refine g_iload_n hC dX12_place_20 rfl 1 rfl ?_
      refine g_callVv0 (As := [.int a1]) (st' := []) (k := a0) (L' := 0) hC Y_X12_laysPlace I_X12_laysPlace k_1239 ⟨by decide, by decide⟩ h0 (ci := 11) (by decide) rfl dX12_place_21 rfl rfl rfl (Nat.le_of_ble_eq_true rfl) ⟨Nat.zero_le _, Nat.zero_le _⟩ hM (fun c hc => c_X12_laysPlace (xE X) a0 h0 a1 c hc) (fun c3 hM => ?_)
      refine g_iload_n hC dX12_place_24 rfl 2 rfl ?_
      refine g_if_ne (tgt := 35) hC dX12_place_25 rfl (by decide) hM (fun hM => ?_) (fun hM => ?_)
      · refine g_iload_n hC dX12_place_35 rfl 2 rfl ?_
        refine g_iconst (v := 1) hC dX12_place_36 rfl ic_1 ?_
        refine g_icmp_ne (tgt := 47) hC dX12_place_37 rfl (by decide) hM (fun hM => ?_) (fun hM => ?_)
        · refine g_aload_n hC dX12_place_47 rfl 0 rfl ?_
          refine fg_11_10 hC h0 k_1092 dX12_place_48 rfl ?_
          cases hM
          exact g_reti hR dX12_place_51 rfl
        · refine g_aload_n hC dX12_place_40 rfl 0 rfl ?_
          refine fg_11_9 hC h0 k_1091 dX12_place_41 rfl ?_
          refine g_goto (tgt := 51) hC dX12_place_44 rfl (by decide) ?_
          cases hM
          exact g_reti hR dX12_place_51 rfl
      · refine g_aload_n hC dX12_place_28 rfl 0 rfl ?_
        refine fg_11_8 hC h0 k_1090 dX12_place_29 rfl ?_
        refine g_goto (tgt := 51) hC dX12_place_32 rfl (by decide) ?_
        cases hM
        exact g_reti hR dX12_place_51 rfl
    · refine g_iconst (v := -1) hC dX12_place_17 rfl ic_m1 ?_
      obtain rfl := Option.some.inj hM
      exact g_reti hR dX12_place_18 rfl

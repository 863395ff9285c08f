def BX11_isInLine_166 (ρ : Rho) (a0 : Nat) (a1 : Int32) (rec : Sto → Int32 → Int32 → Option (Int32 × Sto)) (σ : Sto) (v2 : Int32) (v3 : Int32) : Option (Int32 × Sto) :=
  bn (v3 + (1 : Int32)) fun y1 =>
  rec σ v2 y1
set_option maxHeartbeats 4000000 in
set_option maxRecDepth 100000 in
theorem bX11_isInLine_166 {X : CX} {n : Nat} {ρ : Rho} {res : Int32 × Sto} (hC : Cx X cX11_isInLine RX11 3) (hml : (xc X).maxLocals = 5) (hR : RtT (some .boolean) X cX11_isInLine n res.1 res.2 ρ) (a0 : Nat) (a1 : Int32) (h0 : Sh n a0 10) (rec : Sto → Int32 → Int32 → Option (Int32 × Sto)) (ih : ∀ (σ : Sto) (v2 : Int32) (v3 : Int32), rec σ v2 v3 = some res → G X 0 0 n σ ρ 13 [(0, vr X a0), (1, .int a1), (2, .int v2), (3, .int v3)] []) : ∀ (σ : Sto) (v2 : Int32) (v3 : Int32), BX11_isInLine_166 ρ a0 a1 rec σ v2 v3 = some res → G X 0 0 n σ ρ 166 [(0, vr X a0), (1, .int a1), (2, .int v2), (3, .int v3)] [] := by
  intro σ v2 v3 hM
  unfold BX11_isInLine_166 at hM
  refine g_iinc (v := 1) hC (fun y1 => [(3, .int y1), (0, vr X a0), (1, .int a1), (2, .int v2)]) dX11_isInLine_166 rfl hM (j := 3) rfl ic_1 hml (by decide) (fun _ => rfl) (fun y1 hM => ?_)
  refine g_goto (tgt := 13) hC dX11_isInLine_169 rfl (by decide) ?_
  exact g_sub [1, 2, 3, 0] (ih _ _ _ hM) rfl
def BX11_isInLine_160 (ρ : Rho) (a0 : Nat) (a1 : Int32) (rec : Sto → Int32 → Int32 → Int32 → Option (Int32 × Sto)) (k166 : Sto → Int32 → Int32 → Option (Int32 × Sto)) (σ : Sto) (v2 : Int32) (v3 : Int32) (v4 : Int32) : Option (Int32 × Sto) :=
  bn (v4 + (1 : Int32)) fun y1 =>
  rec σ v2 v3 y1
set_option maxHeartbeats 4000000 in
set_option maxRecDepth 100000 in
theorem bX11_isInLine_160 {X : CX} {n : Nat} {ρ : Rho} {res : Int32 × Sto} (hC : Cx X cX11_isInLine RX11 3) (hml : (xc X).maxLocals = 5) (hR : RtT (some .boolean) X cX11_isInLine n res.1 res.2 ρ) (a0 : Nat) (a1 : Int32) (h0 : Sh n a0 10) (rec : Sto → Int32 → Int32 → Int32 → Option (Int32 × Sto)) (ih : ∀ (σ : Sto) (v2 : Int32) (v3 : Int32) (v4 : Int32), rec σ v2 v3 v4 = some res → G X 0 0 n σ ρ 99 [(0, vr X a0), (1, .int a1), (2, .int v2), (3, .int v3), (4, .int v4)] []) (k166 : Sto → Int32 → Int32 → Option (Int32 × Sto)) (hk166 : ∀ (σ : Sto) (v2 : Int32) (v3 : Int32), k166 σ v2 v3 = some res → G X 0 0 n σ ρ 166 [(0, vr X a0), (1, .int a1), (2, .int v2), (3, .int v3)] []) : ∀ (σ : Sto) (v2 : Int32) (v3 : Int32) (v4 : Int32), BX11_isInLine_160 ρ a0 a1 rec k166 σ v2 v3 v4 = some res → G X 0 0 n σ ρ 160 [(0, vr X a0), (1, .int a1), (2, .int v2), (3, .int v3), (4, .int v4)] [] := by
  intro σ v2 v3 v4 hM
  unfold BX11_isInLine_160 at hM
  refine g_iinc (v := 1) hC (fun y1 => [(4, .int y1), (0, vr X a0), (1, .int a1), (2, .int v2), (3, .int v3)]) dX11_isInLine_160 rfl hM (j := 4) rfl ic_1 hml (by decide) (fun _ => rfl) (fun y1 hM => ?_)
  refine g_goto (tgt := 99) hC dX11_isInLine_163 rfl (by decide) ?_
  exact g_sub [1, 2, 3, 4, 0] (ih _ _ _ _ hM) rfl
def FX11_isInLine_99 (ρ : Rho) (a0 : Nat) (a1 : Int32) (k166 : Sto → Int32 → Int32 → Option (Int32 × Sto)) (rec : Sto → Int32 → Int32 → Int32 → Option (Int32 × Sto)) (σ : Sto) (v2 : Int32) (v3 : Int32) (v4 : Int32) : Option (Int32 × Sto) :=
  Option.bind (ρ a0 0) fun j1 =>
  Option.bind (ρ j1 0) fun j2 =>
  if (σ j2 1) ≤ v4 then
    k166 σ v2 v3
  else
    if v4 = a1 then
      BX11_isInLine_160 ρ a0 a1 rec k166 σ v2 v3 v4
    else
      Option.bind (ρ a0 12) fun j3 =>
      Option.bind (ρ a0 0) fun j4 =>
      Option.bind (ρ j4 0) fun j5 =>
      Option.bind (MX8_markAt σ ρ j5 v4) fun c6 =>
      Option.bind (MX10_take σ j3 c6 v2) fun c7 =>
      if c7.1 = 0 then
        BX11_isInLine_160 ρ a0 a1 rec k166 c7.2 v2 v3 v4
      else
        Option.bind (ρ a0 13) fun j8 =>
        Option.bind (ρ a0 12) fun j9 =>
        Option.bind (MX10_isOn c7.2 j8 j9 v2) fun c10 =>
        if c10 = 0 then
          BX11_isInLine_160 ρ a0 a1 rec k166 c7.2 v2 v3 v4
        else
          zr ((1 : Int32)) (some ((1 : Int32), c7.2))
set_option maxHeartbeats 4000000 in
set_option maxRecDepth 100000 in
theorem bX11_isInLine_99 {X : CX} {n : Nat} {ρ : Rho} {res : Int32 × Sto} (hC : Cx X cX11_isInLine RX11 3) (hml : (xc X).maxLocals = 5) (hR : RtT (some .boolean) X cX11_isInLine n res.1 res.2 ρ) (a0 : Nat) (a1 : Int32) (h0 : Sh n a0 10) (k166 : Sto → Int32 → Int32 → Option (Int32 × Sto)) (hk166 : ∀ (σ : Sto) (v2 : Int32) (v3 : Int32), k166 σ v2 v3 = some res → G X 0 0 n σ ρ 166 [(0, vr X a0), (1, .int a1), (2, .int v2), (3, .int v3)] []) (fu : Nat) : ∀ (σ : Sto) (v2 : Int32) (v3 : Int32) (v4 : Int32), fixN (fun _ _ _ _ => none) (FX11_isInLine_99 ρ a0 a1 k166) fu σ v2 v3 v4 = some res → G X 0 0 n σ ρ 99 [(0, vr X a0), (1, .int a1), (2, .int v2), (3, .int v3), (4, .int v4)] [] := by
  refine fixN_ind (P := fun (f : Sto → Int32 → Int32 → Int32 → Option (Int32 × Sto)) => ∀ (σ : Sto) (v2 : Int32) (v3 : Int32) (v4 : Int32), f σ v2 v3 v4 = some res → G X 0 0 n σ ρ 99 [(0, vr X a0), (1, .int a1), (2, .int v2), (3, .int v3), (4, .int v4)] []) ?_ ?_ fu
  · intro σ v2 v3 v4 hM; cases hM
  · intro rec ih σ v2 v3 v4 hM
    unfold FX11_isInLine_99 at hM
    refine g_iload hC dX11_isInLine_99 rfl 4 rfl ?_
    refine g_aload_n hC dX11_isInLine_101 rfl 0 rfl ?_
    refine fg_10_0 hC h0 k_380 dX11_isInLine_102 rfl hM (fun j1 hj1 hM => ?_)
    refine fg_3_0 hC hj1 k_172 dX11_isInLine_105 rfl hM (fun j2 hj2 hM => ?_)
    refine fg_7_1 hC hj2 k_143 dX11_isInLine_108 rfl ?_
    refine g_icmp_ge (tgt := 166) hC dX11_isInLine_111 rfl (by decide) hM (fun hM => ?_) (fun hM => ?_)
    · exact g_sub [0, 1, 2, 3] (hk166 _ _ _ hM) rfl
    · refine g_iload hC dX11_isInLine_114 rfl 4 rfl ?_
      refine g_iload_n hC dX11_isInLine_116 rfl 1 rfl ?_
      refine g_icmp_eq (tgt := 160) hC dX11_isInLine_117 rfl (by decide) hM (fun hM => ?_) (fun hM => ?_)
      · exact g_sub [0, 1, 2, 3, 4] ((bX11_isInLine_160 hC hml hR a0 a1 h0 rec ih k166 hk166) _ _ _ _ hM) rfl
      · refine g_aload_n hC dX11_isInLine_120 rfl 0 rfl ?_
        refine fg_10_12 hC h0 k_392 dX11_isInLine_121 rfl hM (fun j3 hj3 hM => ?_)
        refine g_aload_n hC dX11_isInLine_124 rfl 0 rfl ?_
        refine fg_10_0 hC h0 k_380 dX11_isInLine_125 rfl hM (fun j4 hj4 hM => ?_)
        refine fg_3_0 hC hj4 k_172 dX11_isInLine_128 rfl hM (fun j5 hj5 hM => ?_)
        refine g_iload hC dX11_isInLine_131 rfl 4 rfl ?_
        refine g_callVi (As := [.int v4]) (st' := [vr X j3]) (k := j5) (L' := 0) hC Y_X8_markAt I_X8_markAt k_826 ⟨by decide, by decide⟩ hj5 (ci := 7) (by decide) rfl dX11_isInLine_133 rfl rfl rfl (Nat.le_of_ble_eq_true rfl) ⟨Nat.zero_le _, Nat.zero_le _⟩ hM (fun c hc => c_X8_markAt (xE X) j5 hj5 v4 c hc) (fun c6 hM => ?_)
        refine g_iload_n hC dX11_isInLine_136 rfl 2 rfl ?_
        refine g_callVi (As := [.int c6, .int v2]) (st' := []) (k := j3) (L' := 1) hC Y_X10_take I_X10_take k_790 ⟨by decide, by decide⟩ hj3 (ci := 9) (by decide) rfl dX11_isInLine_137 rfl rfl rfl (Nat.le_of_ble_eq_true rfl) ⟨Nat.zero_le _, Nat.zero_le _⟩ hM (fun c hc => c_X10_take (xE X) j3 hj3 c6 v2 c hc) (fun c7 hM => ?_)
        refine g_if_eq (tgt := 160) hC dX11_isInLine_140 rfl (by decide) hM (fun hM => ?_) (fun hM => ?_)
        · exact g_sub [0, 1, 2, 3, 4] ((bX11_isInLine_160 hC hml hR a0 a1 h0 rec ih k166 hk166) _ _ _ _ hM) rfl
        · refine g_aload_n hC dX11_isInLine_143 rfl 0 rfl ?_
          refine fg_10_13 hC h0 k_393 dX11_isInLine_144 rfl hM (fun j8 hj8 hM => ?_)
          refine g_aload_n hC dX11_isInLine_147 rfl 0 rfl ?_
          refine fg_10_12 hC h0 k_392 dX11_isInLine_148 rfl hM (fun j9 hj9 hM => ?_)
          refine g_iload_n hC dX11_isInLine_151 rfl 2 rfl ?_
          refine g_callVi (As := [vr X j9, .int v2]) (st' := []) (k := j8) (L' := 2) hC Y_X10_isOn I_X10_isOn k_831 ⟨by decide, by decide⟩ hj8 (ci := 9) (by decide) rfl dX11_isInLine_152 rfl rfl rfl (Nat.le_of_ble_eq_true rfl) ⟨Nat.zero_le _, Nat.zero_le _⟩ hM (fun c hc => c_X10_isOn (xE X) j8 hj8 j9 hj9 v2 c hc) (fun c10 hM => ?_)
          refine g_if_eq (tgt := 160) hC dX11_isInLine_155 rfl (by decide) hM (fun hM => ?_) (fun hM => ?_)
          · exact g_sub [0, 1, 2, 3, 4] ((bX11_isInLine_160 hC hml hR a0 a1 h0 rec ih k166 hk166) _ _ _ _ hM) rfl
          · refine g_iconst (v := 1) hC dX11_isInLine_158 rfl ic_1 ?_
            exact g_retz hM dX11_isInLine_159 rfl (fun h => by cases h; exact hR)
def FX11_isInLine_13 (ρ : Rho) (a0 : Nat) (a1 : Int32) (rec : Sto → Int32 → Int32 → Option (Int32 × Sto)) (σ : Sto) (v2 : Int32) (v3 : Int32) : Option (Int32 × Sto) :=
  Option.bind (ρ a0 0) fun j1 =>
  Option.bind (ρ j1 0) fun j2 =>
  if (σ j2 1) ≤ v3 then
    zr ((0 : Int32)) (some ((0 : Int32), σ))
  else
    if v3 = a1 then
      BX11_isInLine_166 ρ a0 a1 rec σ v2 v3
    else
      Option.bind (ρ a0 11) fun j3 =>
      Option.bind (ρ a0 0) fun j4 =>
      Option.bind (ρ j4 0) fun j5 =>
      Option.bind (MX8_markAt σ ρ j5 a1) fun c6 =>
      Option.bind (MX10_take σ j3 c6 v2) fun c7 =>
      if c7.1 = 0 then
        BX11_isInLine_166 ρ a0 a1 rec c7.2 v2 v3
      else
        Option.bind (ρ a0 12) fun j8 =>
        Option.bind (ρ a0 0) fun j9 =>
        Option.bind (ρ j9 0) fun j10 =>
        Option.bind (MX8_markAt c7.2 ρ j10 v3) fun c11 =>
        Option.bind (MX10_take c7.2 j8 c11 v2) fun c12 =>
        if c12.1 = 0 then
          BX11_isInLine_166 ρ a0 a1 rec c12.2 v2 v3
        else
          Option.bind (ρ a0 13) fun j13 =>
          Option.bind (ρ a0 11) fun j14 =>
          Option.bind (ρ a0 12) fun j15 =>
          Option.bind (MX10_cross c12.2 j13 j14 j15) fun c16 =>
          bn ((v3 + (1 : Int32))) fun y17 =>
          fixN (fun _ _ _ _ => none) (FX11_isInLine_99 ρ a0 a1 (BX11_isInLine_166 ρ a0 a1 rec)) FU c16 v2 v3 y17
set_option maxHeartbeats 4000000 in
set_option maxRecDepth 100000 in
theorem bX11_isInLine_13 {X : CX} {n : Nat} {ρ : Rho} {res : Int32 × Sto} (hC : Cx X cX11_isInLine RX11 3) (hml : (xc X).maxLocals = 5) (hR : RtT (some .boolean) X cX11_isInLine n res.1 res.2 ρ) (a0 : Nat) (a1 : Int32) (h0 : Sh n a0 10) (fu : Nat) : ∀ (σ : Sto) (v2 : Int32) (v3 : Int32), fixN (fun _ _ _ => none) (FX11_isInLine_13 ρ a0 a1) fu σ v2 v3 = some res → G X 0 0 n σ ρ 13 [(0, vr X a0), (1, .int a1), (2, .int v2), (3, .int v3)] [] := by
  refine fixN_ind (P := fun (f : Sto → Int32 → Int32 → Option (Int32 × Sto)) => ∀ (σ : Sto) (v2 : Int32) (v3 : Int32), f σ v2 v3 = some res → G X 0 0 n σ ρ 13 [(0, vr X a0), (1, .int a1), (2, .int v2), (3, .int v3)] []) ?_ ?_ fu
  · intro σ v2 v3 hM; cases hM
  · intro rec ih σ v2 v3 hM
    unfold FX11_isInLine_13 at hM
    refine g_iload_n hC dX11_isInLine_13 rfl 3 rfl ?_
    refine g_aload_n hC dX11_isInLine_14 rfl 0 rfl ?_
    refine fg_10_0 hC h0 k_380 dX11_isInLine_15 rfl hM (fun j1 hj1 hM => ?_)
    refine fg_3_0 hC hj1 k_172 dX11_isInLine_18 rfl hM (fun j2 hj2 hM => ?_)
    refine fg_7_1 hC hj2 k_143 dX11_isInLine_21 rfl ?_
    refine g_icmp_ge (tgt := 172) hC dX11_isInLine_24 rfl (by decide) hM (fun hM => ?_) (fun hM => ?_)
    · refine g_iconst (v := 0) hC dX11_isInLine_172 rfl ic_0 ?_
      exact g_retz hM dX11_isInLine_173 rfl (fun h => by cases h; exact hR)
    · refine g_iload_n hC dX11_isInLine_27 rfl 3 rfl ?_
      refine g_iload_n hC dX11_isInLine_28 rfl 1 rfl ?_
      refine g_icmp_eq (tgt := 166) hC dX11_isInLine_29 rfl (by decide) hM (fun hM => ?_) (fun hM => ?_)
      · exact g_sub [0, 1, 2, 3] ((bX11_isInLine_166 hC hml hR a0 a1 h0 rec ih ) _ _ _ hM) rfl
      · refine g_aload_n hC dX11_isInLine_32 rfl 0 rfl ?_
        refine fg_10_11 hC h0 k_391 dX11_isInLine_33 rfl hM (fun j3 hj3 hM => ?_)
        refine g_aload_n hC dX11_isInLine_36 rfl 0 rfl ?_
        refine fg_10_0 hC h0 k_380 dX11_isInLine_37 rfl hM (fun j4 hj4 hM => ?_)
        refine fg_3_0 hC hj4 k_172 dX11_isInLine_40 rfl hM (fun j5 hj5 hM => ?_)
        refine g_iload_n hC dX11_isInLine_43 rfl 1 rfl ?_
        refine g_callVi (As := [.int a1]) (st' := [vr X j3]) (k := j5) (L' := 0) hC Y_X8_markAt I_X8_markAt k_826 ⟨by decide, by decide⟩ hj5 (ci := 7) (by decide) rfl dX11_isInLine_44 rfl rfl rfl (Nat.le_of_ble_eq_true rfl) ⟨Nat.zero_le _, Nat.zero_le _⟩ hM (fun c hc => c_X8_markAt (xE X) j5 hj5 a1 c hc) (fun c6 hM => ?_)
        refine g_iload_n hC dX11_isInLine_47 rfl 2 rfl ?_
        refine g_callVi (As := [.int c6, .int v2]) (st' := []) (k := j3) (L' := 1) hC Y_X10_take I_X10_take k_790 ⟨by decide, by decide⟩ hj3 (ci := 9) (by decide) rfl dX11_isInLine_48 rfl rfl rfl (Nat.le_of_ble_eq_true rfl) ⟨Nat.zero_le _, Nat.zero_le _⟩ hM (fun c hc => c_X10_take (xE X) j3 hj3 c6 v2 c hc) (fun c7 hM => ?_)
        refine g_if_eq (tgt := 166) hC dX11_isInLine_51 rfl (by decide) hM (fun hM => ?_) (fun hM => ?_)
        · exact g_sub [0, 1, 2, 3] ((bX11_isInLine_166 hC hml hR a0 a1 h0 rec ih ) _ _ _ hM) rfl
        · refine g_aload_n hC dX11_isInLine_54 rfl 0 rfl ?_
          refine fg_10_12 hC h0 k_392 dX11_isInLine_55 rfl hM (fun j8 hj8 hM => ?_)
          refine g_aload_n hC dX11_isInLine_58 rfl 0 rfl ?_
          refine fg_10_0 hC h0 k_380 dX11_isInLine_59 rfl hM (fun j9 hj9 hM => ?_)
          refine fg_3_0 hC hj9 k_172 dX11_isInLine_62 rfl hM (fun j10 hj10 hM => ?_)
          refine g_iload_n hC dX11_isInLine_65 rfl 3 rfl ?_
          refine g_callVi (As := [.int v3]) (st' := [vr X j8]) (k := j10) (L' := 0) hC Y_X8_markAt I_X8_markAt k_826 ⟨by decide, by decide⟩ hj10 (ci := 7) (by decide) rfl dX11_isInLine_66 rfl rfl rfl (Nat.le_of_ble_eq_true rfl) ⟨Nat.zero_le _, Nat.zero_le _⟩ hM (fun c hc => c_X8_markAt (xE X) j10 hj10 v3 c hc) (fun c11 hM => ?_)
          refine g_iload_n hC dX11_isInLine_69 rfl 2 rfl ?_
          refine g_callVi (As := [.int c11, .int v2]) (st' := []) (k := j8) (L' := 1) hC Y_X10_take I_X10_take k_790 ⟨by decide, by decide⟩ hj8 (ci := 9) (by decide) rfl dX11_isInLine_70 rfl rfl rfl (Nat.le_of_ble_eq_true rfl) ⟨Nat.zero_le _, Nat.zero_le _⟩ hM (fun c hc => c_X10_take (xE X) j8 hj8 c11 v2 c hc) (fun c12 hM => ?_)
          refine g_if_ne (tgt := 79) hC dX11_isInLine_73 rfl (by decide) hM (fun hM => ?_) (fun hM => ?_)
          · refine g_aload_n hC dX11_isInLine_79 rfl 0 rfl ?_
            refine fg_10_13 hC h0 k_393 dX11_isInLine_80 rfl hM (fun j13 hj13 hM => ?_)
            refine g_aload_n hC dX11_isInLine_83 rfl 0 rfl ?_
            refine fg_10_11 hC h0 k_391 dX11_isInLine_84 rfl hM (fun j14 hj14 hM => ?_)
            refine g_aload_n hC dX11_isInLine_87 rfl 0 rfl ?_
            refine fg_10_12 hC h0 k_392 dX11_isInLine_88 rfl hM (fun j15 hj15 hM => ?_)
            refine g_callVv0 (As := [vr X j14, vr X j15]) (st' := []) (k := j13) (L' := 1) hC Y_X10_cross I_X10_cross k_827 ⟨by decide, by decide⟩ hj13 (ci := 9) (by decide) rfl dX11_isInLine_91 rfl rfl rfl (Nat.le_of_ble_eq_true rfl) ⟨Nat.zero_le _, Nat.zero_le _⟩ hM (fun c hc => c_X10_cross (xE X) j13 hj13 j14 hj14 j15 hj15 c hc) (fun c16 hM => ?_)
            refine g_iload_n hC dX11_isInLine_94 rfl 3 rfl ?_
            refine g_iconst (v := 1) hC dX11_isInLine_95 rfl ic_1 ?_
            refine g_iadd hC dX11_isInLine_96 rfl ?_
            refine g_istore hC (fun y17 => [(4, .int y17), (0, vr X a0), (1, .int a1), (2, .int v2), (3, .int v3)]) dX11_isInLine_97 rfl hM hml (by decide) (fun _ => rfl) (fun y17 hM => ?_)
            exact g_sub [1, 2, 3, 4, 0] ((bX11_isInLine_99 hC hml hR a0 a1 h0 (BX11_isInLine_166 ρ a0 a1 rec) (bX11_isInLine_166 hC hml hR a0 a1 h0 rec ih ) FU) _ _ _ _ hM) rfl
          · refine g_goto (tgt := 166) hC dX11_isInLine_76 rfl (by decide) ?_
            exact g_sub [0, 1, 2, 3] ((bX11_isInLine_166 hC hml hR a0 a1 h0 rec ih ) _ _ _ hM) rfl
def MX11_isInLine (σ : Sto) (ρ : Rho) (a0 : Nat) (a1 : Int32) : Option (Int32 × Sto) :=
  Option.bind (ρ a0 0) fun j1 =>
  Option.bind (ρ j1 0) fun j2 =>
  bn ((σ j2 0)) fun y3 =>
  bn ((0 : Int32)) fun y4 =>
  fixN (fun _ _ _ => none) (FX11_isInLine_13 ρ a0 a1) FU σ y3 y4
set_option maxHeartbeats 4000000 in
set_option maxRecDepth 100000 in
theorem c_X11_isInLine (E : EX) {n : Nat} {σ : Sto} {ρ : Rho} (a0 : Nat) (h0 : Sh n a0 10) (a1 : Int32) (res : Int32 × Sto) (hM : MX11_isInLine σ ρ a0 a1 = some res) : CTi E yX11_isInLine cX11_isInLine 5 (some .boolean) 3 [.ref (eb E + a0), .int a1] n σ ρ res.1 res.2 ρ := by
  refine ct_i (by decide +kernel) rfl (Nat.le_of_ble_eq_true rfl) (fun X hE hml hC hR => ?_)
  subst hE
  show G X 0 0 n σ ρ 0 [(0, vr X a0), (1, .int a1)] []
  replace hC : Cx X cX11_isInLine RX11 3 := hC
  unfold MX11_isInLine at hM
  refine g_aload_n hC dX11_isInLine_0 rfl 0 rfl ?_
  refine fg_10_0 hC h0 k_380 dX11_isInLine_1 rfl hM (fun j1 hj1 hM => ?_)
  refine fg_3_0 hC hj1 k_172 dX11_isInLine_4 rfl hM (fun j2 hj2 hM => ?_)
  refine fg_7_0 hC hj2 k_138 dX11_isInLine_7 rfl ?_
  refine g_istore_n hC (fun y3 => [(2, .int y3), (0, vr X a0), (1, .int a1)]) dX11_isInLine_10 rfl hM hml (by decide) (fun _ => rfl) (fun y3 hM => ?_)
  refine g_iconst (v := 0) hC dX11_isInLine_11 rfl ic_0 ?_
  refine g_istore_n hC (fun y4 => [(3, .int y4), (2, .int y3), (0, vr X a0), (1, .int a1)]) dX11_isInLine_12 rfl hM hml (by decide) (fun _ => rfl) (fun y4 hM => ?_)
  exact g_sub [2, 3, 1, 0] ((bX11_isInLine_13 hC hml hR a0 a1 h0  FU) _ _ _ hM) rfl
def BX11_marksInLine_29 (ρ : Rho) (a0 : Nat) (rec : Sto → Int32 → Int32 → Option (Int32 × Sto)) (σ : Sto) (v1 : Int32) (v2 : Int32) : Option (Int32 × Sto) :=
  bn (v2 + (1 : Int32)) fun y1 =>
  rec σ v1 y1
set_option maxHeartbeats 4000000 in
set_option maxRecDepth 100000 in
theorem bX11_marksInLine_29 {X : CX} {n : Nat} {ρ : Rho} {res : Int32 × Sto} (hC : Cx X cX11_marksInLine RX11 4) (hml : (xc X).maxLocals = 3) (hR : RtT (some .int) X cX11_marksInLine n res.1 res.2 ρ) (a0 : Nat) (h0 : Sh n a0 10) (rec : Sto → Int32 → Int32 → Option (Int32 × Sto)) (ih : ∀ (σ : Sto) (v1 : Int32) (v2 : Int32), rec σ v1 v2 = some res → G X 0 0 n σ ρ 4 [(0, vr X a0), (1, .int v1), (2, .int v2)] []) : ∀ (σ : Sto) (v1 : Int32) (v2 : Int32), BX11_marksInLine_29 ρ a0 rec σ v1 v2 = some res → G X 0 0 n σ ρ 29 [(0, vr X a0), (1, .int v1), (2, .int v2)] [] := by
  intro σ v1 v2 hM
  unfold BX11_marksInLine_29 at hM
  refine g_iinc (v := 1) hC (fun y1 => [(2, .int y1), (0, vr X a0), (1, .int v1)]) dX11_marksInLine_29 rfl hM (j := 2) rfl ic_1 hml (by decide) (fun _ => rfl) (fun y1 hM => ?_)
  refine g_goto (tgt := 4) hC dX11_marksInLine_32 rfl (by decide) ?_
  exact g_sub [1, 2, 0] (ih _ _ _ hM) rfl
def FX11_marksInLine_4 (ρ : Rho) (a0 : Nat) (rec : Sto → Int32 → Int32 → Option (Int32 × Sto)) (σ : Sto) (v1 : Int32) (v2 : Int32) : Option (Int32 × Sto) :=
  Option.bind (ρ a0 0) fun j1 =>
  Option.bind (ρ j1 0) fun j2 =>
  if (σ j2 1) ≤ v2 then
    some (v1, σ)
  else
    Option.bind (MX11_isInLine σ ρ a0 v2) fun c3 =>
    if c3.1 = 0 then
      BX11_marksInLine_29 ρ a0 rec c3.2 v1 v2
    else
      bn (v1 + (1 : Int32)) fun y4 =>
      BX11_marksInLine_29 ρ a0 rec c3.2 y4 v2
set_option maxHeartbeats 4000000 in
set_option maxRecDepth 100000 in
theorem bX11_marksInLine_4 {X : CX} {n : Nat} {ρ : Rho} {res : Int32 × Sto} (hC : Cx X cX11_marksInLine RX11 4) (hml : (xc X).maxLocals = 3) (hR : RtT (some .int) X cX11_marksInLine n res.1 res.2 ρ) (a0 : Nat) (h0 : Sh n a0 10) (fu : Nat) : ∀ (σ : Sto) (v1 : Int32) (v2 : Int32), fixN (fun _ _ _ => none) (FX11_marksInLine_4 ρ a0) fu σ v1 v2 = some res → G X 0 0 n σ ρ 4 [(0, vr X a0), (1, .int v1), (2, .int v2)] [] := by
  refine fixN_ind (P := fun (f : Sto → Int32 → Int32 → Option (Int32 × Sto)) => ∀ (σ : Sto) (v1 : Int32) (v2 : Int32), f σ v1 v2 = some res → G X 0 0 n σ ρ 4 [(0, vr X a0), (1, .int v1), (2, .int v2)] []) ?_ ?_ fu
  · intro σ v1 v2 hM; cases hM
  · intro rec ih σ v1 v2 hM
    unfold FX11_marksInLine_4 at hM
    refine g_iload_n hC dX11_marksInLine_4 rfl 2 rfl ?_
    refine g_aload_n hC dX11_marksInLine_5 rfl 0 rfl ?_
    refine fg_10_0 hC h0 k_380 dX11_marksInLine_6 rfl hM (fun j1 hj1 hM => ?_)
    refine fg_3_0 hC hj1 k_172 dX11_marksInLine_9 rfl hM (fun j2 hj2 hM => ?_)
    refine fg_7_1 hC hj2 k_143 dX11_marksInLine_12 rfl ?_
    refine g_icmp_ge (tgt := 35) hC dX11_marksInLine_15 rfl (by decide) hM (fun hM => ?_) (fun hM => ?_)
    · refine g_iload_n hC dX11_marksInLine_35 rfl 1 rfl ?_
      cases hM
      exact g_reti hR dX11_marksInLine_36 rfl
    · refine g_aload_n hC dX11_marksInLine_18 rfl 0 rfl ?_
      refine g_iload_n hC dX11_marksInLine_19 rfl 2 rfl ?_
      refine g_callVi (As := [.int v2]) (st' := []) (k := a0) (L' := 3) hC Y_X11_isInLine I_X11_isInLine k_822 ⟨by decide, by decide⟩ h0 (ci := 10) (by decide) rfl dX11_marksInLine_20 rfl rfl rfl (Nat.le_of_ble_eq_true rfl) ⟨Nat.zero_le _, Nat.zero_le _⟩ hM (fun c hc => c_X11_isInLine (xE X) a0 h0 v2 c hc) (fun c3 hM => ?_)
      refine g_if_eq (tgt := 29) hC dX11_marksInLine_23 rfl (by decide) hM (fun hM => ?_) (fun hM => ?_)
      · exact g_sub [0, 1, 2] ((bX11_marksInLine_29 hC hml hR a0 h0 rec ih ) _ _ _ hM) rfl
      · refine g_iinc (v := 1) hC (fun y4 => [(1, .int y4), (0, vr X a0), (2, .int v2)]) dX11_marksInLine_26 rfl hM (j := 1) rfl ic_1 hml (by decide) (fun _ => rfl) (fun y4 hM => ?_)
        exact g_sub [1, 0, 2] ((bX11_marksInLine_29 hC hml hR a0 h0 rec ih ) _ _ _ hM) rfl
def MX11_marksInLine (σ : Sto) (ρ : Rho) (a0 : Nat) : Option (Int32 × Sto) :=
  bn ((0 : Int32)) fun y1 =>
  bn ((0 : Int32)) fun y2 =>
  fixN (fun _ _ _ => none) (FX11_marksInLine_4 ρ a0) FU σ y1 y2
set_option maxHeartbeats 4000000 in
set_option maxRecDepth 100000 in
theorem c_X11_marksInLine (E : EX) {n : Nat} {σ : Sto} {ρ : Rho} (a0 : Nat) (h0 : Sh n a0 10) (res : Int32 × Sto) (hM : MX11_marksInLine σ ρ a0 = some res) : CTi E yX11_marksInLine cX11_marksInLine 3 (some .int) 4 [.ref (eb E + a0)] n σ ρ res.1 res.2 ρ := by
  refine ct_i (by decide +kernel) rfl (Nat.le_of_ble_eq_true rfl) (fun X hE hml hC hR => ?_)
  subst hE
  show G X 0 0 n σ ρ 0 [(0, vr X a0)] []
  replace hC : Cx X cX11_marksInLine RX11 4 := hC
  unfold MX11_marksInLine at hM
  refine g_iconst (v := 0) hC dX11_marksInLine_0 rfl ic_0 ?_
  refine g_istore_n hC (fun y1 => [(1, .int y1), (0, vr X a0)]) dX11_marksInLine_1 rfl hM hml (by decide) (fun _ => rfl) (fun y1 hM => ?_)
  refine g_iconst (v := 0) hC dX11_marksInLine_2 rfl ic_0 ?_
  refine g_istore_n hC (fun y2 => [(2, .int y2), (1, .int y1), (0, vr X a0)]) dX11_marksInLine_3 rfl hM hml (by decide) (fun _ => rfl) (fun y2 hM => ?_)
  exact g_sub [2, 1, 0] ((bX11_marksInLine_4 hC hml hR a0 h0  FU) _ _ _ hM) rfl
def MX11_count (σ : Sto) (ρ : Rho) (a0 : Nat) (a1 : Int32) : Option (Int32 × Sto × Rho) :=
  if a1 = (0 : Int32) then
    Option.bind (ρ a0 0) fun j1 =>
    Option.bind (ρ j1 0) fun j2 =>
    some ((σ j2 0), σ, ρ)
  else
  if a1 = (1 : Int32) then
    Option.bind (ρ a0 0) fun j3 =>
    Option.bind (ρ j3 0) fun j4 =>
    Option.bind (MX2_points ((σ j4 0))) fun c5 =>
    some (c5, σ, ρ)
  else
  if a1 = (2 : Int32) then
    Option.bind (ρ a0 0) fun j6 =>
    Option.bind (ρ j6 0) fun j7 =>
    some ((σ j7 1), σ, ρ)
  else
  if a1 = (3 : Int32) then
    Option.bind (ρ a0 6) fun j8 =>
    Option.bind (ρ a0 0) fun j9 =>
    Option.bind (ρ j9 0) fun j10 =>
    Option.bind (MX1_gather σ ρ j8 j10) fun c11 =>
    Option.bind (c11.2 a0 6) fun j12 =>
    some ((c11.1 j12 2), c11.1, c11.2)
  else
  if a1 = (4 : Int32) then
    Option.bind (ρ a0 1) fun j13 =>
    some ((σ j13 2), σ, ρ)
  else
  if a1 = (5 : Int32) then
    Option.bind (ρ a0 0) fun j14 =>
    Option.bind (ρ j14 1) fun j15 =>
    some ((σ j15 1), σ, ρ)
  else
  if a1 = (6 : Int32) then
    Option.bind (MX11_properConics σ ρ a0) fun c16 =>
    some (c16.1, c16.2, ρ)
  else
  if a1 = (7 : Int32) then
    Option.bind (MX11_marksInLine σ ρ a0) fun c17 =>
    some (c17.1, c17.2, ρ)
  else
  some ((-1 : Int32), σ, ρ)
set_option maxHeartbeats 4000000 in
set_option maxRecDepth 100000 in
theorem c_X11_count (E : EX) {n : Nat} {σ : Sto} {ρ : Rho} (a0 : Nat) (h0 : Sh n a0 10) (a1 : Int32) (res : Int32 × Sto × Rho) (hM : MX11_count σ ρ a0 a1 = some res) : CTi E yX11_count cX11_count 2 (some .int) 6 [.ref (eb E + a0), .int a1] n σ ρ res.1 res.2.1 res.2.2 := by
  refine ct_i (by decide +kernel) rfl (Nat.le_of_ble_eq_true rfl) (fun X hE hml hC hR => ?_)
  subst hE
  show G X 0 0 n σ ρ 0 [(0, vr X a0), (1, .int a1)] []
  replace hC : Cx X cX11_count RX11 6 := hC
  unfold MX11_count at hM
  refine g_iload_n hC dX11_count_0 rfl 1 rfl ?_
  refine g_ite hM (fun hx0 hM => ?_) (fun hx0 hM => ?_)
  · refine g_tswK (tgt := 48) hC dX11_count_1 rfl hx0 (z := 0) (by decide) (by decide) (by decide) rfl (by decide) ?_
    refine g_aload_n hC dX11_count_48 rfl 0 rfl ?_
    refine fg_10_0 hC h0 k_380 dX11_count_49 rfl hM (fun j1 hj1 hM => ?_)
    refine fg_3_0 hC hj1 k_172 dX11_count_52 rfl hM (fun j2 hj2 hM => ?_)
    refine fg_7_0 hC hj2 k_138 dX11_count_55 rfl ?_
    cases hM
    exact g_reti hR dX11_count_58 rfl
  refine g_ite hM (fun hx1 hM => ?_) (fun hx1 hM => ?_)
  · refine g_tswK (tgt := 59) hC dX11_count_1 rfl hx1 (z := 1) (by decide) (by decide) (by decide) rfl (by decide) ?_
    refine g_aload_n hC dX11_count_59 rfl 0 rfl ?_
    refine fg_10_0 hC h0 k_380 dX11_count_60 rfl hM (fun j3 hj3 hM => ?_)
    refine fg_3_0 hC hj3 k_172 dX11_count_63 rfl hM (fun j4 hj4 hM => ?_)
    refine fg_7_0 hC hj4 k_138 dX11_count_66 rfl ?_
    refine g_callSi (As := [.int ((σ j4 0))]) (st' := []) (L' := 0) hC Y_X2_points k_552 k_813 ⟨by decide, by decide⟩ dX11_count_69 rfl rfl rfl (Nat.le_of_ble_eq_true rfl) ⟨Nat.zero_le _, Nat.zero_le _⟩ hM (fun c hc => c_X2_points (xE X) ((σ j4 0)) c hc) (fun c5 hM => ?_)
    cases hM
    exact g_reti hR dX11_count_72 rfl
  refine g_ite hM (fun hx2 hM => ?_) (fun hx2 hM => ?_)
  · refine g_tswK (tgt := 73) hC dX11_count_1 rfl hx2 (z := 2) (by decide) (by decide) (by decide) rfl (by decide) ?_
    refine g_aload_n hC dX11_count_73 rfl 0 rfl ?_
    refine fg_10_0 hC h0 k_380 dX11_count_74 rfl hM (fun j6 hj6 hM => ?_)
    refine fg_3_0 hC hj6 k_172 dX11_count_77 rfl hM (fun j7 hj7 hM => ?_)
    refine fg_7_1 hC hj7 k_143 dX11_count_80 rfl ?_
    cases hM
    exact g_reti hR dX11_count_83 rfl
  refine g_ite hM (fun hx3 hM => ?_) (fun hx3 hM => ?_)
  · refine g_tswK (tgt := 84) hC dX11_count_1 rfl hx3 (z := 3) (by decide) (by decide) (by decide) rfl (by decide) ?_
    refine g_aload_n hC dX11_count_84 rfl 0 rfl ?_
    refine fg_10_6 hC h0 k_386 dX11_count_85 rfl hM (fun j8 hj8 hM => ?_)
    refine g_aload_n hC dX11_count_88 rfl 0 rfl ?_
    refine fg_10_0 hC h0 k_380 dX11_count_89 rfl hM (fun j9 hj9 hM => ?_)
    refine fg_3_0 hC hj9 k_172 dX11_count_92 rfl hM (fun j10 hj10 hM => ?_)
    refine g_callVv0 (As := [vr X j10]) (st' := []) (k := j8) (L' := 5) hC Y_X1_gather I_X1_gather k_755 ⟨by decide, by decide⟩ hj8 (ci := 1) (by decide) rfl dX11_count_95 rfl rfl rfl (Nat.le_of_ble_eq_true rfl) ⟨Nat.zero_le _, Nat.zero_le _⟩ hM (fun c hc => c_X1_gather (xE X) j8 hj8 j10 hj10 c hc) (fun c11 hM => ?_)
    refine g_aload_n hC dX11_count_98 rfl 0 rfl ?_
    refine fg_10_6 hC h0 k_386 dX11_count_99 rfl hM (fun j12 hj12 hM => ?_)
    refine fg_1_2 hC hj12 k_366 dX11_count_102 rfl ?_
    cases hM
    exact g_reti hR dX11_count_105 rfl
  refine g_ite hM (fun hx4 hM => ?_) (fun hx4 hM => ?_)
  · refine g_tswK (tgt := 106) hC dX11_count_1 rfl hx4 (z := 4) (by decide) (by decide) (by decide) rfl (by decide) ?_
    refine g_aload_n hC dX11_count_106 rfl 0 rfl ?_
    refine fg_10_1 hC h0 k_381 dX11_count_107 rfl hM (fun j13 hj13 hM => ?_)
    refine fg_4_2 hC hj13 k_208 dX11_count_110 rfl ?_
    cases hM
    exact g_reti hR dX11_count_113 rfl
  refine g_ite hM (fun hx5 hM => ?_) (fun hx5 hM => ?_)
  · refine g_tswK (tgt := 114) hC dX11_count_1 rfl hx5 (z := 5) (by decide) (by decide) (by decide) rfl (by decide) ?_
    refine g_aload_n hC dX11_count_114 rfl 0 rfl ?_
    refine fg_10_0 hC h0 k_380 dX11_count_115 rfl hM (fun j14 hj14 hM => ?_)
    refine fg_3_1 hC hj14 k_174 dX11_count_118 rfl hM (fun j15 hj15 hM => ?_)
    refine fg_8_1 hC hj15 k_164 dX11_count_121 rfl ?_
    cases hM
    exact g_reti hR dX11_count_124 rfl
  refine g_ite hM (fun hx6 hM => ?_) (fun hx6 hM => ?_)
  · refine g_tswK (tgt := 125) hC dX11_count_1 rfl hx6 (z := 6) (by decide) (by decide) (by decide) rfl (by decide) ?_
    refine g_aload_n hC dX11_count_125 rfl 0 rfl ?_
    refine g_callVi (As := []) (st' := []) (k := a0) (L' := 5) hC Y_X11_properConics I_X11_properConics k_814 ⟨by decide, by decide⟩ h0 (ci := 10) (by decide) rfl dX11_count_126 rfl rfl rfl (Nat.le_of_ble_eq_true rfl) ⟨Nat.zero_le _, Nat.zero_le _⟩ hM (fun c hc => c_X11_properConics (xE X) a0 h0 c hc) (fun c16 hM => ?_)
    cases hM
    exact g_reti hR dX11_count_129 rfl
  refine g_ite hM (fun hx7 hM => ?_) (fun hx7 hM => ?_)
  · refine g_tswK (tgt := 130) hC dX11_count_1 rfl hx7 (z := 7) (by decide) (by decide) (by decide) rfl (by decide) ?_
    refine g_aload_n hC dX11_count_130 rfl 0 rfl ?_
    refine g_callVi (As := []) (st' := []) (k := a0) (L' := 4) hC Y_X11_marksInLine I_X11_marksInLine k_818 ⟨by decide, by decide⟩ h0 (ci := 10) (by decide) rfl dX11_count_131 rfl rfl rfl (Nat.le_of_ble_eq_true rfl) ⟨Nat.zero_le _, Nat.zero_le _⟩ hM (fun c hc => c_X11_marksInLine (xE X) a0 h0 c hc) (fun c17 hM => ?_)
    cases hM
    exact g_reti hR dX11_count_134 rfl
  replace hx0 := lv_neT hx0 (a := 0) (by decide)
  replace hx1 := lv_neT hx1 (a := 1) (by decide)
  replace hx2 := lv_neT hx2 (a := 2) (by decide)
  replace hx3 := lv_neT hx3 (a := 3) (by decide)
  replace hx4 := lv_neT hx4 (a := 4) (by decide)
  replace hx5 := lv_neT hx5 (a := 5) (by decide)
  replace hx6 := lv_neT hx6 (a := 6) (by decide)
  replace hx7 := lv_neT hx7 (a := 7) (by decide)
  refine g_tswD (tgt := 135) hC dX11_count_1 rfl (by omega) (by decide) ?_
  refine g_iconst (v := -1) hC dX11_count_135 rfl ic_m1 ?_
  obtain rfl := Option.some.inj hM
  exact g_reti hR dX11_count_136 rfl
def MX11_overFractionsOrKind (σ : Sto) (ρ : Rho) (a0 : Nat) (a1 : Int32) : Option (Int32) :=
  if a1 = (0 : Int32) then
    Option.bind (ρ a0 9) fun j1 =>
    Option.bind (MX3_sort σ j1) fun c2 =>
    some c2
  else
  if a1 = (1 : Int32) then
    Option.bind (ρ a0 7) fun j3 =>
    Option.bind (MX0_kind σ ρ j3) fun c4 =>
    some c4
  else
  if a1 = (2 : Int32) then
    Option.bind (ρ a0 7) fun j5 =>
    Option.bind (MX0_rank σ ρ j5) fun c6 =>
    some c6
  else
  if a1 = (3 : Int32) then
    Option.bind (ρ a0 9) fun j7 =>
    Option.bind (MX3_d σ j7) fun c8 =>
    some c8
  else
  if a1 = (4 : Int32) then
    Option.bind (ρ a0 9) fun j9 =>
    Option.bind (MX3_e σ j9) fun c10 =>
    some c10
  else
  if a1 = (5 : Int32) then
    Option.bind (ρ a0 9) fun j11 =>
    Option.bind (MX3_i σ j11) fun c12 =>
    some c12
  else
  some (-2000000000 : Int32)
set_option maxHeartbeats 4000000 in
set_option maxRecDepth 100000 in
theorem c_X11_overFractionsOrKind (E : EX) {n : Nat} {σ : Sto} {ρ : Rho} (a0 : Nat) (h0 : Sh n a0 10) (a1 : Int32) (res : Int32) (hM : MX11_overFractionsOrKind σ ρ a0 a1 = some res) : CTi E yX11_overFractionsOrKind cX11_overFractionsOrKind 2 (some .int) 5 [.ref (eb E + a0), .int a1] n σ ρ res σ ρ := by
  refine ct_i (by decide +kernel) rfl (Nat.le_of_ble_eq_true rfl) (fun X hE hml hC hR => ?_)
  subst hE
  show G X 0 0 n σ ρ 0 [(0, vr X a0), (1, .int a1)] []
  replace hC : Cx X cX11_overFractionsOrKind RX11 5 := hC
  unfold MX11_overFractionsOrKind at hM
  refine g_iload_n hC dX11_overFractionsOrKind_0 rfl 1 rfl ?_
  refine g_ite hM (fun hx0 hM => ?_) (fun hx0 hM => ?_)
  · refine g_tswK (tgt := 40) hC dX11_overFractionsOrKind_1 rfl hx0 (z := 0) (by decide) (by decide) (by decide) rfl (by decide) ?_
    refine g_aload_n hC dX11_overFractionsOrKind_40 rfl 0 rfl ?_
    refine fg_10_9 hC h0 k_389 dX11_overFractionsOrKind_41 rfl hM (fun j1 hj1 hM => ?_)
    refine g_callVi (As := []) (st' := []) (k := j1) (L' := 2) hC Y_X3_sort I_X3_sort k_845 ⟨by decide, by decide⟩ hj1 (ci := 2) (by decide) rfl dX11_overFractionsOrKind_44 rfl rfl rfl (Nat.le_of_ble_eq_true rfl) ⟨Nat.zero_le _, Nat.zero_le _⟩ hM (fun c hc => c_X3_sort (xE X) j1 hj1 c hc) (fun c2 hM => ?_)
    cases hM
    exact g_reti hR dX11_overFractionsOrKind_47 rfl
  refine g_ite hM (fun hx1 hM => ?_) (fun hx1 hM => ?_)
  · refine g_tswK (tgt := 48) hC dX11_overFractionsOrKind_1 rfl hx1 (z := 1) (by decide) (by decide) (by decide) rfl (by decide) ?_
    refine g_aload_n hC dX11_overFractionsOrKind_48 rfl 0 rfl ?_
    refine fg_10_7 hC h0 k_387 dX11_overFractionsOrKind_49 rfl hM (fun j3 hj3 hM => ?_)
    refine g_callVi (As := []) (st' := []) (k := j3) (L' := 4) hC Y_X0_kind I_X0_kind k_704 ⟨by decide, by decide⟩ hj3 (ci := 0) (by decide) rfl dX11_overFractionsOrKind_52 rfl rfl rfl (Nat.le_of_ble_eq_true rfl) ⟨Nat.zero_le _, Nat.zero_le _⟩ hM (fun c hc => c_X0_kind (xE X) j3 hj3 c hc) (fun c4 hM => ?_)
    cases hM
    exact g_reti hR dX11_overFractionsOrKind_55 rfl
  refine g_ite hM (fun hx2 hM => ?_) (fun hx2 hM => ?_)
  · refine g_tswK (tgt := 56) hC dX11_overFractionsOrKind_1 rfl hx2 (z := 2) (by decide) (by decide) (by decide) rfl (by decide) ?_
    refine g_aload_n hC dX11_overFractionsOrKind_56 rfl 0 rfl ?_
    refine fg_10_7 hC h0 k_387 dX11_overFractionsOrKind_57 rfl hM (fun j5 hj5 hM => ?_)
    refine g_callVi (As := []) (st' := []) (k := j5) (L' := 3) hC Y_X0_rank I_X0_rank k_863 ⟨by decide, by decide⟩ hj5 (ci := 0) (by decide) rfl dX11_overFractionsOrKind_60 rfl rfl rfl (Nat.le_of_ble_eq_true rfl) ⟨Nat.zero_le _, Nat.zero_le _⟩ hM (fun c hc => c_X0_rank (xE X) j5 hj5 c hc) (fun c6 hM => ?_)
    cases hM
    exact g_reti hR dX11_overFractionsOrKind_63 rfl
  refine g_ite hM (fun hx3 hM => ?_) (fun hx3 hM => ?_)
  · refine g_tswK (tgt := 64) hC dX11_overFractionsOrKind_1 rfl hx3 (z := 3) (by decide) (by decide) (by decide) rfl (by decide) ?_
    refine g_aload_n hC dX11_overFractionsOrKind_64 rfl 0 rfl ?_
    refine fg_10_9 hC h0 k_389 dX11_overFractionsOrKind_65 rfl hM (fun j7 hj7 hM => ?_)
    refine g_callVi (As := []) (st' := []) (k := j7) (L' := 0) hC Y_X3_d I_X3_d k_864 ⟨by decide, by decide⟩ hj7 (ci := 2) (by decide) rfl dX11_overFractionsOrKind_68 rfl rfl rfl (Nat.le_of_ble_eq_true rfl) ⟨Nat.zero_le _, Nat.zero_le _⟩ hM (fun c hc => c_X3_d (xE X) j7 hj7 c hc) (fun c8 hM => ?_)
    cases hM
    exact g_reti hR dX11_overFractionsOrKind_71 rfl
  refine g_ite hM (fun hx4 hM => ?_) (fun hx4 hM => ?_)
  · refine g_tswK (tgt := 72) hC dX11_overFractionsOrKind_1 rfl hx4 (z := 4) (by decide) (by decide) (by decide) rfl (by decide) ?_
    refine g_aload_n hC dX11_overFractionsOrKind_72 rfl 0 rfl ?_
    refine fg_10_9 hC h0 k_389 dX11_overFractionsOrKind_73 rfl hM (fun j9 hj9 hM => ?_)
    refine g_callVi (As := []) (st' := []) (k := j9) (L' := 0) hC Y_X3_e I_X3_e k_865 ⟨by decide, by decide⟩ hj9 (ci := 2) (by decide) rfl dX11_overFractionsOrKind_76 rfl rfl rfl (Nat.le_of_ble_eq_true rfl) ⟨Nat.zero_le _, Nat.zero_le _⟩ hM (fun c hc => c_X3_e (xE X) j9 hj9 c hc) (fun c10 hM => ?_)
    cases hM
    exact g_reti hR dX11_overFractionsOrKind_79 rfl
  refine g_ite hM (fun hx5 hM => ?_) (fun hx5 hM => ?_)
  · refine g_tswK (tgt := 80) hC dX11_overFractionsOrKind_1 rfl hx5 (z := 5) (by decide) (by decide) (by decide) rfl (by decide) ?_
    refine g_aload_n hC dX11_overFractionsOrKind_80 rfl 0 rfl ?_
    refine fg_10_9 hC h0 k_389 dX11_overFractionsOrKind_81 rfl hM (fun j11 hj11 hM => ?_)
    refine g_callVi (As := []) (st' := []) (k := j11) (L' := 0) hC Y_X3_i I_X3_i k_866 ⟨by decide, by decide⟩ hj11 (ci := 2) (by decide) rfl dX11_overFractionsOrKind_84 rfl rfl rfl (Nat.le_of_ble_eq_true rfl) ⟨Nat.zero_le _, Nat.zero_le _⟩ hM (fun c hc => c_X3_i (xE X) j11 hj11 c hc) (fun c12 hM => ?_)
    cases hM
    exact g_reti hR dX11_overFractionsOrKind_87 rfl
  replace hx0 := lv_neT hx0 (a := 0) (by decide)
  replace hx1 := lv_neT hx1 (a := 1) (by decide)
  replace hx2 := lv_neT hx2 (a := 2) (by decide)
  replace hx3 := lv_neT hx3 (a := 3) (by decide)
  replace hx4 := lv_neT hx4 (a := 4) (by decide)
  replace hx5 := lv_neT hx5 (a := 5) (by decide)
  refine g_tswD (tgt := 88) hC dX11_overFractionsOrKind_1 rfl (by omega) (by decide) ?_
  refine g_ldc hC k_840 dX11_overFractionsOrKind_88 rfl ?_
  obtain rfl := Option.some.inj hM
  exact g_reti hR dX11_overFractionsOrKind_90 rfl
def BX11_overField_27 (σ : Sto) (ρ : Rho) (a0 : Nat) (a1 : Int32) (v2 : Int32) (t0 : Int32) : Option (Int32) :=
  bn t0 fun y1 =>
  if a1 = (6 : Int32) then
    Option.bind (ρ a0 7) fun j2 =>
    Option.bind (MX0_points σ ρ j2) fun c3 =>
    some c3
  else
  if a1 = (7 : Int32) then
    Option.bind (ρ a0 7) fun j4 =>
    Option.bind (MX0_lines σ ρ j4) fun c5 =>
    some c5
  else
  if a1 = (8 : Int32) then
    if y1 = 0 then
      some (-1 : Int32)
    else
      Option.bind (dvi ((v2 * (v2 + (1 : Int32)))) ((2 : Int32))) fun z6 =>
      some z6
  else
  if a1 = (9 : Int32) then
    if y1 = 0 then
      some (-1 : Int32)
    else
      Option.bind (dvi ((v2 * (v2 - (1 : Int32)))) ((2 : Int32))) fun z7 =>
      some z7
  else
  some (-2000000000 : Int32)
set_option maxHeartbeats 4000000 in
set_option maxRecDepth 100000 in
theorem bX11_overField_27 {X : CX} {n : Nat} {σ : Sto} {ρ : Rho} {res : Int32} (hC : Cx X cX11_overField RX11 6) (hml : (xc X).maxLocals = 4) (hR : RtT (some .int) X cX11_overField n res σ ρ) (a0 : Nat) (a1 : Int32) (h0 : Sh n a0 10) : ∀ (v2 : Int32) (t0 : Int32), BX11_overField_27 σ ρ a0 a1 v2 t0 = some res → G X 0 0 n σ ρ 27 [(0, vr X a0), (1, .int a1), (2, .int v2)] [.int t0] := by
  intro v2 t0 hM
  unfold BX11_overField_27 at hM
  refine g_istore_n hC (fun y1 => [(3, .int y1), (0, vr X a0), (1, .int a1), (2, .int v2)]) dX11_overField_27 rfl hM hml (by decide) (fun _ => rfl) (fun y1 hM => ?_)
  refine g_iload_n hC dX11_overField_28 rfl 2 rfl ?_
  refine g_ite hM (fun hx0 hM => ?_) (fun hx0 hM => ?_)
  · refine g_tswK (tgt := 60) hC dX11_overField_29 rfl hx0 (z := 6) (by decide) (by decide) (by decide) rfl (by decide) ?_
    refine g_aload_n hC dX11_overField_60 rfl 1 rfl ?_
    refine fg_10_7 hC h0 k_387 dX11_overField_61 rfl hM (fun j2 hj2 hM => ?_)
    refine g_callVi (As := []) (st' := []) (k := j2) (L' := 5) hC Y_X0_points I_X0_points k_871 ⟨by decide, by decide⟩ hj2 (ci := 0) (by decide) rfl dX11_overField_64 rfl rfl rfl (Nat.le_of_ble_eq_true rfl) ⟨Nat.zero_le _, Nat.zero_le _⟩ hM (fun c hc => c_X0_points (xE X) j2 hj2 c hc) (fun c3 hM => ?_)
    cases hM
    exact g_reti hR dX11_overField_67 rfl
  refine g_ite hM (fun hx1 hM => ?_) (fun hx1 hM => ?_)
  · refine g_tswK (tgt := 68) hC dX11_overField_29 rfl hx1 (z := 7) (by decide) (by decide) (by decide) rfl (by decide) ?_
    refine g_aload_n hC dX11_overField_68 rfl 1 rfl ?_
    refine fg_10_7 hC h0 k_387 dX11_overField_69 rfl hM (fun j4 hj4 hM => ?_)
    refine g_callVi (As := []) (st' := []) (k := j4) (L' := 5) hC Y_X0_lines I_X0_lines k_877 ⟨by decide, by decide⟩ hj4 (ci := 0) (by decide) rfl dX11_overField_72 rfl rfl rfl (Nat.le_of_ble_eq_true rfl) ⟨Nat.zero_le _, Nat.zero_le _⟩ hM (fun c hc => c_X0_lines (xE X) j4 hj4 c hc) (fun c5 hM => ?_)
    cases hM
    exact g_reti hR dX11_overField_75 rfl
  refine g_ite hM (fun hx2 hM => ?_) (fun hx2 hM => ?_)
  · refine g_tswK (tgt := 76) hC dX11_overField_29 rfl hx2 (z := 8) (by decide) (by decide) (by decide) rfl (by decide) ?_
    refine g_iload_n hC dX11_overField_76 rfl 0 rfl ?_
    refine g_if_eq (tgt := 90) hC dX11_overField_77 rfl (by decide) hM (fun hM => ?_) (fun hM => ?_)
    · refine g_iconst (v := -1) hC dX11_overField_90 rfl ic_m1 ?_
      obtain rfl := Option.some.inj hM
      exact g_reti hR dX11_overField_91 rfl
    · refine g_iload_n hC dX11_overField_80 rfl 3 rfl ?_
      refine g_iload_n hC dX11_overField_81 rfl 3 rfl ?_
      refine g_iconst (v := 1) hC dX11_overField_82 rfl ic_1 ?_
      refine g_iadd hC dX11_overField_83 rfl ?_
      refine g_imul hC dX11_overField_84 rfl ?_
      refine g_iconst (v := 2) hC dX11_overField_85 rfl ic_2 ?_
      refine g_idiv hC dX11_overField_86 rfl hM (fun z6 hM => ?_)
      refine g_goto (tgt := 91) hC dX11_overField_87 rfl (by decide) ?_
      cases hM
      exact g_reti hR dX11_overField_91 rfl
  refine g_ite hM (fun hx3 hM => ?_) (fun hx3 hM => ?_)
  · refine g_tswK (tgt := 92) hC dX11_overField_29 rfl hx3 (z := 9) (by decide) (by decide) (by decide) rfl (by decide) ?_
    refine g_iload_n hC dX11_overField_92 rfl 0 rfl ?_
    refine g_if_eq (tgt := 106) hC dX11_overField_93 rfl (by decide) hM (fun hM => ?_) (fun hM => ?_)
    · refine g_iconst (v := -1) hC dX11_overField_106 rfl ic_m1 ?_
      obtain rfl := Option.some.inj hM
      exact g_reti hR dX11_overField_107 rfl
    · refine g_iload_n hC dX11_overField_96 rfl 3 rfl ?_
      refine g_iload_n hC dX11_overField_97 rfl 3 rfl ?_
      refine g_iconst (v := 1) hC dX11_overField_98 rfl ic_1 ?_
      refine g_isub hC dX11_overField_99 rfl ?_
      refine g_imul hC dX11_overField_100 rfl ?_
      refine g_iconst (v := 2) hC dX11_overField_101 rfl ic_2 ?_
      refine g_idiv hC dX11_overField_102 rfl hM (fun z7 hM => ?_)
      refine g_goto (tgt := 107) hC dX11_overField_103 rfl (by decide) ?_
      cases hM
      exact g_reti hR dX11_overField_107 rfl
  replace hx0 := lv_neT hx0 (a := 6) (by decide)
  replace hx1 := lv_neT hx1 (a := 7) (by decide)
  replace hx2 := lv_neT hx2 (a := 8) (by decide)
  replace hx3 := lv_neT hx3 (a := 9) (by decide)
  refine g_tswD (tgt := 108) hC dX11_overField_29 rfl (by omega) (by decide) ?_
  refine g_ldc hC k_840 dX11_overField_108 rfl ?_
  obtain rfl := Option.some.inj hM
  exact g_reti hR dX11_overField_110 rfl
def MX11_overField (σ : Sto) (ρ : Rho) (a0 : Nat) (a1 : Int32) : Option (Int32) :=
  Option.bind (ρ a0 0) fun j1 =>
  Option.bind (ρ j1 0) fun j2 =>
  bn ((σ j2 0)) fun y3 =>
  Option.bind (ρ a0 7) fun j4 =>
  Option.bind (MX0_kind σ ρ j4) fun c5 =>
  if c5 = (4 : Int32) then
    BX11_overField_27 σ ρ a0 a1 y3 ((1 : Int32))
  else
    BX11_overField_27 σ ρ a0 a1 y3 ((0 : Int32))
set_option maxHeartbeats 4000000 in
set_option maxRecDepth 100000 in
theorem c_X11_overField (E : EX) {n : Nat} {σ : Sto} {ρ : Rho} (a0 : Nat) (h0 : Sh n a0 10) (a1 : Int32) (res : Int32) (hM : MX11_overField σ ρ a0 a1 = some res) : CTi E yX11_overField cX11_overField 4 (some .int) 6 [.ref (eb E + a0), .int a1] n σ ρ res σ ρ := by
  refine ct_i (by decide +kernel) rfl (Nat.le_of_ble_eq_true rfl) (fun X hE hml hC hR => ?_)
  subst hE
  show G X 0 0 n σ ρ 0 [(0, vr X a0), (1, .int a1)] []
  replace hC : Cx X cX11_overField RX11 6 := hC
  unfold MX11_overField at hM
  refine g_aload_n hC dX11_overField_0 rfl 0 rfl ?_
  refine fg_10_0 hC h0 k_380 dX11_overField_1 rfl hM (fun j1 hj1 hM => ?_)
  refine fg_3_0 hC hj1 k_172 dX11_overField_4 rfl hM (fun j2 hj2 hM => ?_)
  refine fg_7_0 hC hj2 k_138 dX11_overField_7 rfl ?_
  refine g_istore_n hC (fun y3 => [(2, .int y3), (0, vr X a0), (1, .int a1)]) dX11_overField_10 rfl hM hml (by decide) (fun _ => rfl) (fun y3 hM => ?_)
  refine g_aload_n hC dX11_overField_11 rfl 1 rfl ?_
  refine fg_10_7 hC h0 k_387 dX11_overField_12 rfl hM (fun j4 hj4 hM => ?_)
  refine g_callVi (As := []) (st' := []) (k := j4) (L' := 4) hC Y_X0_kind I_X0_kind k_704 ⟨by decide, by decide⟩ hj4 (ci := 0) (by decide) rfl dX11_overField_15 rfl rfl rfl (Nat.le_of_ble_eq_true rfl) ⟨Nat.zero_le _, Nat.zero_le _⟩ hM (fun c hc => c_X0_kind (xE X) j4 hj4 c hc) (fun c5 hM => ?_)
  refine g_iconst (v := 4) hC dX11_overField_18 rfl ic_4 ?_
  refine g_icmp_ne (tgt := 26) hC dX11_overField_19 rfl (by decide) hM (fun hM => ?_) (fun hM => ?_)
  · refine g_iconst (v := 0) hC dX11_overField_26 rfl ic_0 ?_
    exact g_sub [1, 2, 0] ((bX11_overField_27 hC hml hR a0 a1 h0 ) _ _ hM) rfl
  · refine g_iconst (v := 1) hC dX11_overField_22 rfl ic_1 ?_
    refine g_goto (tgt := 27) hC dX11_overField_23 rfl (by decide) ?_
    exact g_sub [1, 2, 0] ((bX11_overField_27 hC hml hR a0 a1 h0 ) _ _ hM) rfl
def BX11_conic_99 (ρ : Rho) (a0 : Nat) (a1 : Int32) (a2 : Int32) (σ : Sto) : Option (Int32 × Sto) :=
  if (6 : Int32) ≤ a2 then
    Option.bind (MX11_overField σ ρ a0 a2) fun c1 =>
    some (c1, σ)
  else
    Option.bind (MX11_overFractionsOrKind σ ρ a0 a2) fun c2 =>
    some (c2, σ)
set_option maxHeartbeats 4000000 in
set_option maxRecDepth 100000 in
theorem bX11_conic_99 {X : CX} {n : Nat} {ρ : Rho} {res : Int32 × Sto} (hC : Cx X cX11_conic RX11 7) (hml : (xc X).maxLocals = 3) (hR : RtT (some .int) X cX11_conic n res.1 res.2 ρ) (a0 : Nat) (a1 : Int32) (a2 : Int32) (h0 : Sh n a0 10) : ∀ (σ : Sto), BX11_conic_99 ρ a0 a1 a2 σ = some res → G X 0 0 n σ ρ 99 [(0, vr X a0), (1, .int a1), (2, .int a2)] [] := by
  intro σ hM
  unfold BX11_conic_99 at hM
  refine g_iload_n hC dX11_conic_99 rfl 2 rfl ?_
  refine g_bipush (v := 6) hC dX11_conic_100 rfl ib_6 ?_
  refine g_icmp_ge (tgt := 113) hC dX11_conic_102 rfl (by decide) hM (fun hM => ?_) (fun hM => ?_)
  · refine g_aload_n hC dX11_conic_113 rfl 0 rfl ?_
    refine g_iload_n hC dX11_conic_114 rfl 2 rfl ?_
    refine g_callVi (As := [.int a2]) (st' := []) (k := a0) (L' := 6) hC Y_X11_overField I_X11_overField k_867 ⟨by decide, by decide⟩ h0 (ci := 10) (by decide) rfl dX11_conic_115 rfl rfl rfl (Nat.le_of_ble_eq_true rfl) ⟨Nat.zero_le _, Nat.zero_le _⟩ hM (fun c hc => c_X11_overField (xE X) a0 h0 a2 c hc) (fun c1 hM => ?_)
    cases hM
    exact g_reti hR dX11_conic_118 rfl
  · refine g_aload_n hC dX11_conic_105 rfl 0 rfl ?_
    refine g_iload_n hC dX11_conic_106 rfl 2 rfl ?_
    refine g_callVi (As := [.int a2]) (st' := []) (k := a0) (L' := 5) hC Y_X11_overFractionsOrKind I_X11_overFractionsOrKind k_841 ⟨by decide, by decide⟩ h0 (ci := 10) (by decide) rfl dX11_conic_107 rfl rfl rfl (Nat.le_of_ble_eq_true rfl) ⟨Nat.zero_le _, Nat.zero_le _⟩ hM (fun c hc => c_X11_overFractionsOrKind (xE X) a0 h0 a2 c hc) (fun c2 hM => ?_)
    refine g_goto (tgt := 118) hC dX11_conic_110 rfl (by decide) ?_
    cases hM
    exact g_reti hR dX11_conic_118 rfl
def BX11_conic_68 (ρ : Rho) (a0 : Nat) (a1 : Int32) (a2 : Int32) (σ : Sto) : Option (Int32 × Sto) :=
  if a2 < (20 : Int32) then
    BX11_conic_99 ρ a0 a1 a2 σ
  else
    Option.bind (MX11_isNumber ((a2 - (20 : Int32)))) fun c1 =>
    if c1 = 0 then
      BX11_conic_99 ρ a0 a1 a2 σ
    else
      Option.bind (ρ a0 7) fun j2 =>
      Option.bind (ρ j2 0) fun j3 =>
      Option.bind (MX3_nth σ j3 ((a2 - (20 : Int32)))) fun c4 =>
      some (c4, σ)
set_option maxHeartbeats 4000000 in
set_option maxRecDepth 100000 in
theorem bX11_conic_68 {X : CX} {n : Nat} {ρ : Rho} {res : Int32 × Sto} (hC : Cx X cX11_conic RX11 7) (hml : (xc X).maxLocals = 3) (hR : RtT (some .int) X cX11_conic n res.1 res.2 ρ) (a0 : Nat) (a1 : Int32) (a2 : Int32) (h0 : Sh n a0 10) : ∀ (σ : Sto), BX11_conic_68 ρ a0 a1 a2 σ = some res → G X 0 0 n σ ρ 68 [(0, vr X a0), (1, .int a1), (2, .int a2)] [] := by
  intro σ hM
  unfold BX11_conic_68 at hM
  refine g_iload_n hC dX11_conic_68 rfl 2 rfl ?_
  refine g_bipush (v := 20) hC dX11_conic_69 rfl ib_20 ?_
  refine g_icmp_lt (tgt := 99) hC dX11_conic_71 rfl (by decide) hM (fun hM => ?_) (fun hM => ?_)
  · exact g_sub [0, 1, 2] ((bX11_conic_99 hC hml hR a0 a1 a2 h0 ) _ hM) rfl
  · refine g_iload_n hC dX11_conic_74 rfl 2 rfl ?_
    refine g_bipush (v := 20) hC dX11_conic_75 rfl ib_20 ?_
    refine g_isub hC dX11_conic_77 rfl ?_
    refine g_callSi (As := [.int ((a2 - (20 : Int32)))]) (st' := []) (L' := 0) hC Y_X11_isNumber k_660 k_659 ⟨by decide, by decide⟩ dX11_conic_78 rfl rfl rfl (Nat.le_of_ble_eq_true rfl) ⟨Nat.zero_le _, Nat.zero_le _⟩ hM (fun c hc => c_X11_isNumber (xE X) ((a2 - (20 : Int32))) c hc) (fun c1 hM => ?_)
    refine g_if_eq (tgt := 99) hC dX11_conic_81 rfl (by decide) hM (fun hM => ?_) (fun hM => ?_)
    · exact g_sub [0, 1, 2] ((bX11_conic_99 hC hml hR a0 a1 a2 h0 ) _ hM) rfl
    · refine g_aload_n hC dX11_conic_84 rfl 0 rfl ?_
      refine fg_10_7 hC h0 k_387 dX11_conic_85 rfl hM (fun j2 hj2 hM => ?_)
      refine fg_0_0 hC hj2 k_324 dX11_conic_88 rfl hM (fun j3 hj3 hM => ?_)
      refine g_iload_n hC dX11_conic_91 rfl 2 rfl ?_
      refine g_bipush (v := 20) hC dX11_conic_92 rfl ib_20 ?_
      refine g_isub hC dX11_conic_94 rfl ?_
      refine g_callVi (As := [.int ((a2 - (20 : Int32)))]) (st' := []) (k := j3) (L' := 0) hC Y_X3_nth I_X3_nth k_668 ⟨by decide, by decide⟩ hj3 (ci := 2) (by decide) rfl dX11_conic_95 rfl rfl rfl (Nat.le_of_ble_eq_true rfl) ⟨Nat.zero_le _, Nat.zero_le _⟩ hM (fun c hc => c_X3_nth (xE X) j3 hj3 ((a2 - (20 : Int32))) c hc) (fun c4 hM => ?_)
      cases hM
      exact g_reti hR dX11_conic_98 rfl
def MX11_conic (σ : Sto) (ρ : Rho) (a0 : Nat) (a1 : Int32) (a2 : Int32) : Option (Int32 × Sto) :=
  Option.bind (MX11_isConic a1) fun c1 =>
  if c1 = 0 then
    some ((-2000000000 : Int32), σ)
  else
    Option.bind (ρ a0 0) fun j2 =>
    Option.bind (ρ j2 0) fun j3 =>
    Option.bind (ρ a0 9) fun j4 =>
    Option.bind (MX8_read σ ρ j3 a1 j4) fun c5 =>
    Option.bind (ρ a0 7) fun j6 =>
    Option.bind (ρ a0 0) fun j7 =>
    Option.bind (ρ j7 0) fun j8 =>
    Option.bind (MX0_take c5 ρ j6 j8 a1) fun c9 =>
    if a2 < (10 : Int32) then
      BX11_conic_68 ρ a0 a1 a2 c9
    else
      Option.bind (MX11_isNumber ((a2 - (10 : Int32)))) fun c10 =>
      if c10 = 0 then
        BX11_conic_68 ρ a0 a1 a2 c9
      else
        Option.bind (ρ a0 9) fun j11 =>
        Option.bind (MX3_nth c9 j11 ((a2 - (10 : Int32)))) fun c12 =>
        some (c12, c9)
set_option maxHeartbeats 4000000 in
set_option maxRecDepth 100000 in
theorem c_X11_conic (E : EX) {n : Nat} {σ : Sto} {ρ : Rho} (a0 : Nat) (h0 : Sh n a0 10) (a1 : Int32) (a2 : Int32) (res : Int32 × Sto) (hM : MX11_conic σ ρ a0 a1 a2 = some res) : CTi E yX11_conic cX11_conic 3 (some .int) 7 [.ref (eb E + a0), .int a1, .int a2] n σ ρ res.1 res.2 ρ := by
  refine ct_i (by decide +kernel) rfl (Nat.le_of_ble_eq_true rfl) (fun X hE hml hC hR => ?_)
  subst hE
  show G X 0 0 n σ ρ 0 [(0, vr X a0), (1, .int a1), (2, .int a2)] []
  replace hC : Cx X cX11_conic RX11 7 := hC
  unfold MX11_conic at hM
  refine g_iload_n hC dX11_conic_0 rfl 1 rfl ?_
  refine g_callSi (As := [.int a1]) (st' := []) (L' := 0) hC Y_X11_isConic k_559 k_658 ⟨by decide, by decide⟩ dX11_conic_1 rfl rfl rfl (Nat.le_of_ble_eq_true rfl) ⟨Nat.zero_le _, Nat.zero_le _⟩ hM (fun c hc => c_X11_isConic (xE X) a1 c hc) (fun c1 hM => ?_)
  refine g_if_ne (tgt := 10) hC dX11_conic_4 rfl (by decide) hM (fun hM => ?_) (fun hM => ?_)
  · refine g_aload_n hC dX11_conic_10 rfl 0 rfl ?_
    refine fg_10_0 hC h0 k_380 dX11_conic_11 rfl hM (fun j2 hj2 hM => ?_)
    refine fg_3_0 hC hj2 k_172 dX11_conic_14 rfl hM (fun j3 hj3 hM => ?_)
    refine g_iload_n hC dX11_conic_17 rfl 1 rfl ?_
    refine g_aload_n hC dX11_conic_18 rfl 0 rfl ?_
    refine fg_10_9 hC h0 k_389 dX11_conic_19 rfl hM (fun j4 hj4 hM => ?_)
    refine g_callVv0 (As := [.int a1, vr X j4]) (st' := []) (k := j3) (L' := 1) hC Y_X8_read I_X8_read k_663 ⟨by decide, by decide⟩ hj3 (ci := 7) (by decide) rfl dX11_conic_22 rfl rfl rfl (Nat.le_of_ble_eq_true rfl) ⟨Nat.zero_le _, Nat.zero_le _⟩ hM (fun c hc => c_X8_read (xE X) j3 hj3 a1 j4 hj4 c hc) (fun c5 hM => ?_)
    refine g_aload_n hC dX11_conic_25 rfl 0 rfl ?_
    refine fg_10_7 hC h0 k_387 dX11_conic_26 rfl hM (fun j6 hj6 hM => ?_)
    refine g_aload_n hC dX11_conic_29 rfl 0 rfl ?_
    refine fg_10_0 hC h0 k_380 dX11_conic_30 rfl hM (fun j7 hj7 hM => ?_)
    refine fg_3_0 hC hj7 k_172 dX11_conic_33 rfl hM (fun j8 hj8 hM => ?_)
    refine g_iload_n hC dX11_conic_36 rfl 1 rfl ?_
    refine g_callVv0 (As := [vr X j8, .int a1]) (st' := []) (k := j6) (L' := 3) hC Y_X0_take I_X0_take k_689 ⟨by decide, by decide⟩ hj6 (ci := 0) (by decide) rfl dX11_conic_37 rfl rfl rfl (Nat.le_of_ble_eq_true rfl) ⟨Nat.zero_le _, Nat.zero_le _⟩ hM (fun c hc => c_X0_take (xE X) j6 hj6 j8 hj8 a1 c hc) (fun c9 hM => ?_)
    refine g_iload_n hC dX11_conic_40 rfl 2 rfl ?_
    refine g_bipush (v := 10) hC dX11_conic_41 rfl ib_10 ?_
    refine g_icmp_lt (tgt := 68) hC dX11_conic_43 rfl (by decide) hM (fun hM => ?_) (fun hM => ?_)
    · exact g_sub [0, 1, 2] ((bX11_conic_68 hC hml hR a0 a1 a2 h0 ) _ hM) rfl
    · refine g_iload_n hC dX11_conic_46 rfl 2 rfl ?_
      refine g_bipush (v := 10) hC dX11_conic_47 rfl ib_10 ?_
      refine g_isub hC dX11_conic_49 rfl ?_
      refine g_callSi (As := [.int ((a2 - (10 : Int32)))]) (st' := []) (L' := 0) hC Y_X11_isNumber k_660 k_659 ⟨by decide, by decide⟩ dX11_conic_50 rfl rfl rfl (Nat.le_of_ble_eq_true rfl) ⟨Nat.zero_le _, Nat.zero_le _⟩ hM (fun c hc => c_X11_isNumber (xE X) ((a2 - (10 : Int32))) c hc) (fun c10 hM => ?_)
      refine g_if_eq (tgt := 68) hC dX11_conic_53 rfl (by decide) hM (fun hM => ?_) (fun hM => ?_)
      · exact g_sub [0, 1, 2] ((bX11_conic_68 hC hml hR a0 a1 a2 h0 ) _ hM) rfl
      · refine g_aload_n hC dX11_conic_56 rfl 0 rfl ?_
        refine fg_10_9 hC h0 k_389 dX11_conic_57 rfl hM (fun j11 hj11 hM => ?_)
        refine g_iload_n hC dX11_conic_60 rfl 2 rfl ?_
        refine g_bipush (v := 10) hC dX11_conic_61 rfl ib_10 ?_
        refine g_isub hC dX11_conic_63 rfl ?_
        refine g_callVi (As := [.int ((a2 - (10 : Int32)))]) (st' := []) (k := j11) (L' := 0) hC Y_X3_nth I_X3_nth k_668 ⟨by decide, by decide⟩ hj11 (ci := 2) (by decide) rfl dX11_conic_64 rfl rfl rfl (Nat.le_of_ble_eq_true rfl) ⟨Nat.zero_le _, Nat.zero_le _⟩ hM (fun c hc => c_X3_nth (xE X) j11 hj11 ((a2 - (10 : Int32))) c hc) (fun c12 hM => ?_)
        cases hM
        exact g_reti hR dX11_conic_67 rfl
  · refine g_ldc hC k_840 dX11_conic_7 rfl ?_
    obtain rfl := Option.some.inj hM
    exact g_reti hR dX11_conic_9 rfl
def MX11_place (σ : Sto) (ρ : Rho) (a0 : Nat) (a1 : Int32) (a2 : Int32) : Option (Int32 × Sto) :=
  if a2 < 0 then
    some ((-1 : Int32), σ)
  else
    if (2 : Int32) < a2 then
      some ((-1 : Int32), σ)
    else
      Option.bind (ρ a0 11) fun j1 =>
      Option.bind (ρ a0 0) fun j2 =>
      Option.bind (ρ j2 0) fun j3 =>
      Option.bind (MX10_take σ j1 a1 ((σ j3 0))) fun c4 =>
      if c4.1 = 0 then
        some ((-1 : Int32), c4.2)
      else
        Option.bind (ρ a0 11) fun j5 =>
        Option.bind (MX10_nth c4.2 j5 a2) fun c6 =>
        some (c6, c4.2)
set_option maxHeartbeats 4000000 in
set_option maxRecDepth 100000 in
theorem c_X11_place (E : EX) {n : Nat} {σ : Sto} {ρ : Rho} (a0 : Nat) (h0 : Sh n a0 10) (a1 : Int32) (a2 : Int32) (res : Int32 × Sto) (hM : MX11_place σ ρ a0 a1 a2 = some res) : CTi E yX11_place cX11_place 3 (some .int) 2 [.ref (eb E + a0), .int a1, .int a2] n σ ρ res.1 res.2 ρ := by
  refine ct_i (by decide +kernel) rfl (Nat.le_of_ble_eq_true rfl) (fun X hE hml hC hR => ?_)
  subst hE
  show G X 0 0 n σ ρ 0 [(0, vr X a0), (1, .int a1), (2, .int a2)] []
  replace hC : Cx X cX11_place RX11 2 := hC
  unfold MX11_place at hM
  refine g_iload_n hC dX11_place_0 rfl 2 rfl ?_
  refine g_if_lt (tgt := 30) hC dX11_place_1 rfl (by decide) hM (fun hM => ?_) (fun hM => ?_)
  · refine g_iconst (v := -1) hC dX11_place_30 rfl ic_m1 ?_
    obtain rfl := Option.some.inj hM
    exact g_reti hR dX11_place_31 rfl
  · refine g_iload_n hC dX11_place_4 rfl 2 rfl ?_
    refine g_iconst (v := 2) hC dX11_place_5 rfl ic_2 ?_
    refine g_icmp_gt (tgt := 30) hC dX11_place_6 rfl (by decide) hM (fun hM => ?_) (fun hM => ?_)
    · refine g_iconst (v := -1) hC dX11_place_30 rfl ic_m1 ?_
      obtain rfl := Option.some.inj hM
      exact g_reti hR dX11_place_31 rfl
    · refine g_aload_n hC dX11_place_9 rfl 0 rfl ?_
      refine fg_10_11 hC h0 k_391 dX11_place_10 rfl hM (fun j1 hj1 hM => ?_)
      refine g_iload_n hC dX11_place_13 rfl 1 rfl ?_
      refine g_aload_n hC dX11_place_14 rfl 0 rfl ?_
      refine fg_10_0 hC h0 k_380 dX11_place_15 rfl hM (fun j2 hj2 hM => ?_)
      refine fg_3_0 hC hj2 k_172 dX11_place_18 rfl hM (fun j3 hj3 hM => ?_)
      refine fg_7_0 hC hj3 k_138 dX11_place_21 rfl ?_
      refine g_callVi (As := [.int a1, .int ((σ j3 0))]) (st' := []) (k := j1) (L' := 1) hC Y_X10_take I_X10_take k_790 ⟨by decide, by decide⟩ hj1 (ci := 9) (by decide) rfl dX11_place_24 rfl rfl rfl (Nat.le_of_ble_eq_true rfl) ⟨Nat.zero_le _, Nat.zero_le _⟩ hM (fun c hc => c_X10_take (xE X) j1 hj1 a1 ((σ j3 0)) c hc) (fun c4 hM => ?_)
      refine g_if_ne (tgt := 32) hC dX11_place_27 rfl (by decide) hM (fun hM => ?_) (fun hM => ?_)
      · refine g_aload_n hC dX11_place_32 rfl 0 rfl ?_
        refine fg_10_11 hC h0 k_391 dX11_place_33 rfl hM (fun j5 hj5 hM => ?_)
        refine g_iload_n hC dX11_place_36 rfl 2 rfl ?_
        refine g_callVi (As := [.int a2]) (st' := []) (k := j5) (L' := 0) hC Y_X10_nth I_X10_nth k_885 ⟨by decide, by decide⟩ hj5 (ci := 9) (by decide) rfl dX11_place_37 rfl rfl rfl (Nat.le_of_ble_eq_true rfl) ⟨Nat.zero_le _, Nat.zero_le _⟩ hM (fun c hc => c_X10_nth (xE X) j5 hj5 a2 c hc) (fun c6 hM => ?_)
        cases hM
        exact g_reti hR dX11_place_40 rfl
      · refine g_iconst (v := -1) hC dX11_place_30 rfl ic_m1 ?_
        obtain rfl := Option.some.inj hM
        exact g_reti hR dX11_place_31 rfl
def MX11_number (σ : Sto) (ρ : Rho) (a0 : Nat) (a1 : Int32) (a2 : Int32) (a3 : Int32) : Option (Int32 × Sto) :=
  Option.bind (ρ a0 11) fun j1 =>
  Option.bind (MX10_fill σ j1 a1 a2 a3) fun c2 =>
  Option.bind (ρ a0 11) fun j3 =>
  Option.bind (ρ a0 0) fun j4 =>
  Option.bind (ρ j4 0) fun j5 =>
  Option.bind (MX10_numbered c2 j3 ((c2 j5 0))) fun c6 =>
  some (c6, c2)
set_option maxHeartbeats 4000000 in
set_option maxRecDepth 100000 in
theorem c_X11_number (E : EX) {n : Nat} {σ : Sto} {ρ : Rho} (a0 : Nat) (h0 : Sh n a0 10) (a1 : Int32) (a2 : Int32) (a3 : Int32) (res : Int32 × Sto) (hM : MX11_number σ ρ a0 a1 a2 a3 = some res) : CTi E yX11_number cX11_number 4 (some .int) 4 [.ref (eb E + a0), .int a1, .int a2, .int a3] n σ ρ res.1 res.2 ρ := by
  refine ct_i (by decide +kernel) rfl (Nat.le_of_ble_eq_true rfl) (fun X hE hml hC hR => ?_)
  subst hE
  show G X 0 0 n σ ρ 0 [(0, vr X a0), (1, .int a1), (2, .int a2), (3, .int a3)] []
  replace hC : Cx X cX11_number RX11 4 := hC
  unfold MX11_number at hM
  refine g_aload_n hC dX11_number_0 rfl 0 rfl ?_
  refine fg_10_11 hC h0 k_391 dX11_number_1 rfl hM (fun j1 hj1 hM => ?_)
  refine g_iload_n hC dX11_number_4 rfl 1 rfl ?_
  refine g_iload_n hC dX11_number_5 rfl 2 rfl ?_
  refine g_iload_n hC dX11_number_6 rfl 3 rfl ?_
  refine g_callVv0 (As := [.int a1, .int a2, .int a3]) (st' := []) (k := j1) (L' := 0) hC Y_X10_fill I_X10_fill k_893 ⟨by decide, by decide⟩ hj1 (ci := 9) (by decide) rfl dX11_number_7 rfl rfl rfl (Nat.le_of_ble_eq_true rfl) ⟨Nat.zero_le _, Nat.zero_le _⟩ hM (fun c hc => c_X10_fill (xE X) j1 hj1 a1 a2 a3 c hc) (fun c2 hM => ?_)
  refine g_aload_n hC dX11_number_10 rfl 0 rfl ?_
  refine fg_10_11 hC h0 k_391 dX11_number_11 rfl hM (fun j3 hj3 hM => ?_)
  refine g_aload_n hC dX11_number_14 rfl 0 rfl ?_
  refine fg_10_0 hC h0 k_380 dX11_number_15 rfl hM (fun j4 hj4 hM => ?_)
  refine fg_3_0 hC hj4 k_172 dX11_number_18 rfl hM (fun j5 hj5 hM => ?_)
  refine fg_7_0 hC hj5 k_138 dX11_number_21 rfl ?_
  refine g_callVi (As := [.int ((c2 j5 0))]) (st' := []) (k := j3) (L' := 3) hC Y_X10_numbered I_X10_numbered k_894 ⟨by decide, by decide⟩ hj3 (ci := 9) (by decide) rfl dX11_number_24 rfl rfl rfl (Nat.le_of_ble_eq_true rfl) ⟨Nat.zero_le _, Nat.zero_le _⟩ hM (fun c hc => c_X10_numbered (xE X) j3 hj3 ((c2 j5 0)) c hc) (fun c6 hM => ?_)
  cases hM
  exact g_reti hR dX11_number_27 rfl

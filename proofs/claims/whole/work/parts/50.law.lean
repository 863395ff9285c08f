section LAW
variable {X : CX} {cc : ByteArray} {own : String} {L cs ss n pc q : Nat} {σ : Sto} {ρ : Rho} {lv lv' : List (Nat × Value)} {st st' : List Value} {α β γ : Type} {res : β}
def SX (X : CX) (sb sl : Nat) (sc : Nat → Int32) : Prop := va_X sb sl sc (xs X) (xs X).heap ∧ sb < (xs X).heap.size ∧ sb < xb X
def sg (sl : Nat) (sc : Nat → Int32) (i : Int32) : Option Int32 := if i < 0 ∨ sl ≤ i.toNatClampNeg then none else some (sc i.toNatClampNeg)
def RtL (X : CX) (r : Int32) : Prop := ∀ (cs ss n : Nat) (σ : Sto) (ρ : Rho) (pc : Nat) (lv : List (Nat × Value)), cs ≤ (xR X).cells → ss ≤ (xR X).slots → decode cL_law pc = .ok (.ireturn, 1) → G X cs ss n σ ρ pc lv [.int r]
theorem g_slen (hC : Cx X cc own L) {sb sl : Nat} {sc : Nat → Int32} (hX : SX X sb sl sc) (d : decode cc pc = .ok (.arraylength, 1)) (e : q = pc) (kk : G X cs ss n σ ρ (pc + 1) lv (.int (Int32.ofNat sl) :: st)) : G X cs ss n σ ρ q lv (.ref sb :: st) := by
  subst e
  exact fun hz H locs ls hW hS h => va_slen hC.1 hC.2.1 hX.1 hX.2.1 (Nat.not_le.mpr hX.2.2) hS d (kk hz H locs ls hW hS h)
theorem g_sld (hC : Cx X cc own L) {sb sl : Nat} {sc : Nat → Int32} {i : Int32} {f : Int32 → Option β} (hX : SX X sb sl sc) (d : decode cc pc = .ok (.iaload, 1)) (e : q = pc) (hM : Option.bind (sg sl sc i) f = some res) (kk : ∀ x, f x = some res → G X cs ss n σ ρ (pc + 1) lv (.int x :: st)) : G X cs ss n σ ρ q lv (.int i :: .ref sb :: st) := by
  subst e
  unfold sg at hM
  by_cases hi : i < 0 ∨ sl ≤ i.toNatClampNeg
  · rw [if_pos hi] at hM; cases hM
  · rw [if_neg hi] at hM
    exact fun hz H locs ls hW hS h => va_sld hC.1 hC.2.1 hX.1 hX.2.1 (Nat.not_le.mpr hX.2.2) hS hi d (kk _ hM hz H locs ls hW hS h)
end LAW
def BL_law_1271 (sl : Nat) (sc : Nat → Int32) (rec : Sto → Rho → Nat → Nat → Int32 → Option (Int32)) (σ : Sto) (ρ : Rho) (v1 : Nat) (v2 : Nat) (v3 : Int32) : Option (Int32) :=
  bn (v3 + (6 : Int32)) fun y1 =>
  rec σ ρ v1 v2 y1
set_option maxHeartbeats 4000000 in
set_option maxRecDepth 100000 in
theorem bL_law_1271 {X : CX} {cs ss n : Nat} {res : Int32} (hC : Cx X cL_law RL 12) (hml : (xc X).maxLocals = 4) (hR : RtL X res) (hf : cs ≤ (xR X).cells ∧ ss ≤ (xR X).slots) {sb : Nat} (sl : Nat) (sc : Nat → Int32) (hX : SX X sb sl sc) (rec : Sto → Rho → Nat → Nat → Int32 → Option (Int32)) (ih : ∀ (σ : Sto) (ρ : Rho) (v1 : Nat) (v2 : Nat) (v3 : Int32) (hv1 : Sh n v1 10) (hv2 : Sh n v2 11), rec σ ρ v1 v2 v3 = some res → G X cs ss n σ ρ 18 [(0, .ref sb), (1, vr X v1), (2, vr X v2), (3, .int v3)] []) : ∀ (σ : Sto) (ρ : Rho) (v1 : Nat) (v2 : Nat) (v3 : Int32) (hv1 : Sh n v1 10) (hv2 : Sh n v2 11), BL_law_1271 sl sc rec σ ρ v1 v2 v3 = some res → G X cs ss n σ ρ 1271 [(0, .ref sb), (1, vr X v1), (2, vr X v2), (3, .int v3)] [] := by
  intro σ ρ v1 v2 v3 hv1 hv2 hM
  unfold BL_law_1271 at hM
  refine g_iinc (v := 6) hC (fun y1 => [(3, .int y1), (0, .ref sb), (1, vr X v1), (2, vr X v2)]) dL_law_1271 rfl hM (j := 3) rfl ic_6 hml (by decide) (fun _ => rfl) (fun y1 hM => ?_)
  refine g_goto (tgt := 18) hC dL_law_1274 rfl (by decide) ?_
  exact g_sub [1, 2, 3, 0] (ih _ _ _ _ _ hv1 hv2 hM) rfl
def BL_law_180 (sl : Nat) (sc : Nat → Int32) (rec : Sto → Rho → Nat → Nat → Int32 → Option (Int32)) (σ : Sto) (ρ : Rho) (v1 : Nat) (v2 : Nat) (v3 : Int32) : Option (Int32) :=
  Option.bind (sg sl sc ((v3 + (1 : Int32)))) fun x1 =>
  Option.bind (sg sl sc ((v3 + (2 : Int32)))) fun x2 =>
  Option.bind (sg sl sc ((v3 + (3 : Int32)))) fun x3 =>
  Option.bind (sg sl sc ((v3 + (4 : Int32)))) fun x4 =>
  Option.bind (sg sl sc ((v3 + (5 : Int32)))) fun x5 =>
  Option.bind (MX11_feed σ ρ v1 x1 x2 x3 x4 x5) fun c6 =>
  Option.bind (sg sl sc ((v3 + (1 : Int32)))) fun x7 =>
  Option.bind (sg sl sc ((v3 + (2 : Int32)))) fun x8 =>
  Option.bind (sg sl sc ((v3 + (3 : Int32)))) fun x9 =>
  Option.bind (sg sl sc ((v3 + (4 : Int32)))) fun x10 =>
  Option.bind (sg sl sc ((v3 + (5 : Int32)))) fun x11 =>
  Option.bind (MX12_feed c6.2 ρ v2 x7 x8 x9 x10 x11) fun c12 =>
  if c6.1 = c12.1 then
    BL_law_1271 sl sc rec c12.2 ρ v1 v2 v3
  else
    some ((0 : Int32))
set_option maxHeartbeats 4000000 in
set_option maxRecDepth 100000 in
theorem bL_law_180 {X : CX} {cs ss n : Nat} {res : Int32} (hC : Cx X cL_law RL 12) (hml : (xc X).maxLocals = 4) (hR : RtL X res) (hf : cs ≤ (xR X).cells ∧ ss ≤ (xR X).slots) {sb : Nat} (sl : Nat) (sc : Nat → Int32) (hX : SX X sb sl sc) (rec : Sto → Rho → Nat → Nat → Int32 → Option (Int32)) (ih : ∀ (σ : Sto) (ρ : Rho) (v1 : Nat) (v2 : Nat) (v3 : Int32) (hv1 : Sh n v1 10) (hv2 : Sh n v2 11), rec σ ρ v1 v2 v3 = some res → G X cs ss n σ ρ 18 [(0, .ref sb), (1, vr X v1), (2, vr X v2), (3, .int v3)] []) : ∀ (σ : Sto) (ρ : Rho) (v1 : Nat) (v2 : Nat) (v3 : Int32) (hv1 : Sh n v1 10) (hv2 : Sh n v2 11), BL_law_180 sl sc rec σ ρ v1 v2 v3 = some res → G X cs ss n σ ρ 180 [(0, .ref sb), (1, vr X v1), (2, vr X v2), (3, .int v3)] [] := by
  intro σ ρ v1 v2 v3 hv1 hv2 hM
  unfold BL_law_180 at hM
  refine g_aload_n hC dL_law_180 rfl 1 rfl ?_
  refine g_aload_n hC dL_law_181 rfl 0 rfl ?_
  refine g_iload_n hC dL_law_182 rfl 3 rfl ?_
  refine g_iconst (v := 1) hC dL_law_183 rfl ic_1 ?_
  refine g_iadd hC dL_law_184 rfl ?_
  refine g_sld hC hX dL_law_185 rfl hM (fun x1 hM => ?_)
  refine g_aload_n hC dL_law_186 rfl 0 rfl ?_
  refine g_iload_n hC dL_law_187 rfl 3 rfl ?_
  refine g_iconst (v := 2) hC dL_law_188 rfl ic_2 ?_
  refine g_iadd hC dL_law_189 rfl ?_
  refine g_sld hC hX dL_law_190 rfl hM (fun x2 hM => ?_)
  refine g_aload_n hC dL_law_191 rfl 0 rfl ?_
  refine g_iload_n hC dL_law_192 rfl 3 rfl ?_
  refine g_iconst (v := 3) hC dL_law_193 rfl ic_3 ?_
  refine g_iadd hC dL_law_194 rfl ?_
  refine g_sld hC hX dL_law_195 rfl hM (fun x3 hM => ?_)
  refine g_aload_n hC dL_law_196 rfl 0 rfl ?_
  refine g_iload_n hC dL_law_197 rfl 3 rfl ?_
  refine g_iconst (v := 4) hC dL_law_198 rfl ic_4 ?_
  refine g_iadd hC dL_law_199 rfl ?_
  refine g_sld hC hX dL_law_200 rfl hM (fun x4 hM => ?_)
  refine g_aload_n hC dL_law_201 rfl 0 rfl ?_
  refine g_iload_n hC dL_law_202 rfl 3 rfl ?_
  refine g_iconst (v := 5) hC dL_law_203 rfl ic_5 ?_
  refine g_iadd hC dL_law_204 rfl ?_
  refine g_sld hC hX dL_law_205 rfl hM (fun x5 hM => ?_)
  refine g_callVi (As := [.int x1, .int x2, .int x3, .int x4, .int x5]) (st' := []) (k := v1) (L' := 1) hC Y_X11_feed I_X11_feed k_423 ⟨by decide, by decide⟩ hv1 (ci := 10) (by decide) rfl dL_law_206 rfl rfl rfl (Nat.le_of_ble_eq_true rfl) hf hM (fun c hc => c_X11_feed (xE X) v1 hv1 x1 x2 x3 x4 x5 c hc) (fun c6 hM => ?_)
  refine g_aload_n hC dL_law_209 rfl 2 rfl ?_
  refine g_aload_n hC dL_law_210 rfl 0 rfl ?_
  refine g_iload_n hC dL_law_211 rfl 3 rfl ?_
  refine g_iconst (v := 1) hC dL_law_212 rfl ic_1 ?_
  refine g_iadd hC dL_law_213 rfl ?_
  refine g_sld hC hX dL_law_214 rfl hM (fun x7 hM => ?_)
  refine g_aload_n hC dL_law_215 rfl 0 rfl ?_
  refine g_iload_n hC dL_law_216 rfl 3 rfl ?_
  refine g_iconst (v := 2) hC dL_law_217 rfl ic_2 ?_
  refine g_iadd hC dL_law_218 rfl ?_
  refine g_sld hC hX dL_law_219 rfl hM (fun x8 hM => ?_)
  refine g_aload_n hC dL_law_220 rfl 0 rfl ?_
  refine g_iload_n hC dL_law_221 rfl 3 rfl ?_
  refine g_iconst (v := 3) hC dL_law_222 rfl ic_3 ?_
  refine g_iadd hC dL_law_223 rfl ?_
  refine g_sld hC hX dL_law_224 rfl hM (fun x9 hM => ?_)
  refine g_aload_n hC dL_law_225 rfl 0 rfl ?_
  refine g_iload_n hC dL_law_226 rfl 3 rfl ?_
  refine g_iconst (v := 4) hC dL_law_227 rfl ic_4 ?_
  refine g_iadd hC dL_law_228 rfl ?_
  refine g_sld hC hX dL_law_229 rfl hM (fun x10 hM => ?_)
  refine g_aload_n hC dL_law_230 rfl 0 rfl ?_
  refine g_iload_n hC dL_law_231 rfl 3 rfl ?_
  refine g_iconst (v := 5) hC dL_law_232 rfl ic_5 ?_
  refine g_iadd hC dL_law_233 rfl ?_
  refine g_sld hC hX dL_law_234 rfl hM (fun x11 hM => ?_)
  refine g_callVi (As := [.int x7, .int x8, .int x9, .int x10, .int x11]) (st' := [.int c6.1]) (k := v2) (L' := 0) hC Y_X12_feed I_X12_feed k_1443 ⟨by decide, by decide⟩ hv2 (ci := 11) (by decide) rfl dL_law_235 rfl rfl rfl (Nat.le_of_ble_eq_true rfl) hf hM (fun c hc => c_X12_feed (xE X) v2 hv2 x7 x8 x9 x10 x11 c hc) (fun c12 hM => ?_)
  refine g_icmp_eq (tgt := 1271) hC dL_law_238 rfl (by decide) hM (fun hM => ?_) (fun hM => ?_)
  · exact g_sub [0, 1, 2, 3] ((bL_law_1271 hC hml hR hf sl sc hX rec ih ) _ _ _ _ _ hv1 hv2 hM) rfl
  · refine g_iconst (v := 0) hC dL_law_241 rfl ic_0 ?_
    cases hM
    exact hR _ _ _ _ _ _ _ hf.1 hf.2 dL_law_242
def BL_law_243 (sl : Nat) (sc : Nat → Int32) (rec : Sto → Rho → Nat → Nat → Int32 → Option (Int32)) (σ : Sto) (ρ : Rho) (v1 : Nat) (v2 : Nat) (v3 : Int32) : Option (Int32) :=
  Option.bind (sg sl sc ((v3 + (1 : Int32)))) fun x1 =>
  Option.bind (MX11_end σ ρ v1 x1) fun c2 =>
  Option.bind (sg sl sc ((v3 + (1 : Int32)))) fun x3 =>
  Option.bind (MX12_end c2.2 v2 x3) fun c4 =>
  if c2.1 = c4.1 then
    BL_law_1271 sl sc rec c4.2 ρ v1 v2 v3
  else
    some ((0 : Int32))
set_option maxHeartbeats 4000000 in
set_option maxRecDepth 100000 in
theorem bL_law_243 {X : CX} {cs ss n : Nat} {res : Int32} (hC : Cx X cL_law RL 12) (hml : (xc X).maxLocals = 4) (hR : RtL X res) (hf : cs ≤ (xR X).cells ∧ ss ≤ (xR X).slots) {sb : Nat} (sl : Nat) (sc : Nat → Int32) (hX : SX X sb sl sc) (rec : Sto → Rho → Nat → Nat → Int32 → Option (Int32)) (ih : ∀ (σ : Sto) (ρ : Rho) (v1 : Nat) (v2 : Nat) (v3 : Int32) (hv1 : Sh n v1 10) (hv2 : Sh n v2 11), rec σ ρ v1 v2 v3 = some res → G X cs ss n σ ρ 18 [(0, .ref sb), (1, vr X v1), (2, vr X v2), (3, .int v3)] []) : ∀ (σ : Sto) (ρ : Rho) (v1 : Nat) (v2 : Nat) (v3 : Int32) (hv1 : Sh n v1 10) (hv2 : Sh n v2 11), BL_law_243 sl sc rec σ ρ v1 v2 v3 = some res → G X cs ss n σ ρ 243 [(0, .ref sb), (1, vr X v1), (2, vr X v2), (3, .int v3)] [] := by
  intro σ ρ v1 v2 v3 hv1 hv2 hM
  unfold BL_law_243 at hM
  refine g_aload_n hC dL_law_243 rfl 1 rfl ?_
  refine g_aload_n hC dL_law_244 rfl 0 rfl ?_
  refine g_iload_n hC dL_law_245 rfl 3 rfl ?_
  refine g_iconst (v := 1) hC dL_law_246 rfl ic_1 ?_
  refine g_iadd hC dL_law_247 rfl ?_
  refine g_sld hC hX dL_law_248 rfl hM (fun x1 hM => ?_)
  refine g_callVi (As := [.int x1]) (st' := []) (k := v1) (L' := 0) hC Y_X11_end I_X11_end k_431 ⟨by decide, by decide⟩ hv1 (ci := 10) (by decide) rfl dL_law_249 rfl rfl rfl (Nat.le_of_ble_eq_true rfl) hf hM (fun c hc => c_X11_end (xE X) v1 hv1 x1 c hc) (fun c2 hM => ?_)
  refine g_aload_n hC dL_law_252 rfl 2 rfl ?_
  refine g_aload_n hC dL_law_253 rfl 0 rfl ?_
  refine g_iload_n hC dL_law_254 rfl 3 rfl ?_
  refine g_iconst (v := 1) hC dL_law_255 rfl ic_1 ?_
  refine g_iadd hC dL_law_256 rfl ?_
  refine g_sld hC hX dL_law_257 rfl hM (fun x3 hM => ?_)
  refine g_callVi (As := [.int x3]) (st' := [.int c2.1]) (k := v2) (L' := 1) hC Y_X12_end I_X12_end k_1447 ⟨by decide, by decide⟩ hv2 (ci := 11) (by decide) rfl dL_law_258 rfl rfl rfl (Nat.le_of_ble_eq_true rfl) hf hM (fun c hc => c_X12_end (xE X) v2 hv2 x3 c hc) (fun c4 hM => ?_)
  refine g_icmp_eq (tgt := 1271) hC dL_law_261 rfl (by decide) hM (fun hM => ?_) (fun hM => ?_)
  · exact g_sub [0, 1, 2, 3] ((bL_law_1271 hC hml hR hf sl sc hX rec ih ) _ _ _ _ _ hv1 hv2 hM) rfl
  · refine g_iconst (v := 0) hC dL_law_264 rfl ic_0 ?_
    cases hM
    exact hR _ _ _ _ _ _ _ hf.1 hf.2 dL_law_265
def BL_law_266 (sl : Nat) (sc : Nat → Int32) (rec : Sto → Rho → Nat → Nat → Int32 → Option (Int32)) (σ : Sto) (ρ : Rho) (v1 : Nat) (v2 : Nat) (v3 : Int32) : Option (Int32) :=
  Option.bind (MX11_text σ ρ v1) fun c1 =>
  Option.bind (MX12_text c1.2 ρ v2) fun c2 =>
  if c1.1 = c2.1 then
    BL_law_1271 sl sc rec c2.2 ρ v1 v2 v3
  else
    some ((0 : Int32))
set_option maxHeartbeats 4000000 in
set_option maxRecDepth 100000 in
theorem bL_law_266 {X : CX} {cs ss n : Nat} {res : Int32} (hC : Cx X cL_law RL 12) (hml : (xc X).maxLocals = 4) (hR : RtL X res) (hf : cs ≤ (xR X).cells ∧ ss ≤ (xR X).slots) {sb : Nat} (sl : Nat) (sc : Nat → Int32) (hX : SX X sb sl sc) (rec : Sto → Rho → Nat → Nat → Int32 → Option (Int32)) (ih : ∀ (σ : Sto) (ρ : Rho) (v1 : Nat) (v2 : Nat) (v3 : Int32) (hv1 : Sh n v1 10) (hv2 : Sh n v2 11), rec σ ρ v1 v2 v3 = some res → G X cs ss n σ ρ 18 [(0, .ref sb), (1, vr X v1), (2, vr X v2), (3, .int v3)] []) : ∀ (σ : Sto) (ρ : Rho) (v1 : Nat) (v2 : Nat) (v3 : Int32) (hv1 : Sh n v1 10) (hv2 : Sh n v2 11), BL_law_266 sl sc rec σ ρ v1 v2 v3 = some res → G X cs ss n σ ρ 266 [(0, .ref sb), (1, vr X v1), (2, vr X v2), (3, .int v3)] [] := by
  intro σ ρ v1 v2 v3 hv1 hv2 hM
  unfold BL_law_266 at hM
  refine g_aload_n hC dL_law_266 rfl 1 rfl ?_
  refine g_callVi (As := []) (st' := []) (k := v1) (L' := 8) hC Y_X11_text I_X11_text k_435 ⟨by decide, by decide⟩ hv1 (ci := 10) (by decide) rfl dL_law_267 rfl rfl rfl (Nat.le_of_ble_eq_true rfl) hf hM (fun c hc => c_X11_text (xE X) v1 hv1 c hc) (fun c1 hM => ?_)
  refine g_aload_n hC dL_law_270 rfl 2 rfl ?_
  refine g_callVi (As := []) (st' := [.int c1.1]) (k := v2) (L' := 6) hC Y_X12_text I_X12_text k_1455 ⟨by decide, by decide⟩ hv2 (ci := 11) (by decide) rfl dL_law_271 rfl rfl rfl (Nat.le_of_ble_eq_true rfl) hf hM (fun c hc => c_X12_text (xE X) v2 hv2 c hc) (fun c2 hM => ?_)
  refine g_icmp_eq (tgt := 1271) hC dL_law_274 rfl (by decide) hM (fun hM => ?_) (fun hM => ?_)
  · exact g_sub [0, 1, 2, 3] ((bL_law_1271 hC hml hR hf sl sc hX rec ih ) _ _ _ _ _ hv1 hv2 hM) rfl
  · refine g_iconst (v := 0) hC dL_law_277 rfl ic_0 ?_
    cases hM
    exact hR _ _ _ _ _ _ _ hf.1 hf.2 dL_law_278
def BL_law_279 (sl : Nat) (sc : Nat → Int32) (rec : Sto → Rho → Nat → Nat → Int32 → Option (Int32)) (σ : Sto) (ρ : Rho) (v1 : Nat) (v2 : Nat) (v3 : Int32) : Option (Int32) :=
  Option.bind (sg sl sc ((v3 + (1 : Int32)))) fun x1 =>
  Option.bind (MX11_fault σ ρ v1 x1) fun c2 =>
  Option.bind (sg sl sc ((v3 + (1 : Int32)))) fun x3 =>
  Option.bind (MX12_fault σ v2 x3) fun c4 =>
  if c2 = c4 then
    BL_law_1271 sl sc rec σ ρ v1 v2 v3
  else
    some ((0 : Int32))
set_option maxHeartbeats 4000000 in
set_option maxRecDepth 100000 in
theorem bL_law_279 {X : CX} {cs ss n : Nat} {res : Int32} (hC : Cx X cL_law RL 12) (hml : (xc X).maxLocals = 4) (hR : RtL X res) (hf : cs ≤ (xR X).cells ∧ ss ≤ (xR X).slots) {sb : Nat} (sl : Nat) (sc : Nat → Int32) (hX : SX X sb sl sc) (rec : Sto → Rho → Nat → Nat → Int32 → Option (Int32)) (ih : ∀ (σ : Sto) (ρ : Rho) (v1 : Nat) (v2 : Nat) (v3 : Int32) (hv1 : Sh n v1 10) (hv2 : Sh n v2 11), rec σ ρ v1 v2 v3 = some res → G X cs ss n σ ρ 18 [(0, .ref sb), (1, vr X v1), (2, vr X v2), (3, .int v3)] []) : ∀ (σ : Sto) (ρ : Rho) (v1 : Nat) (v2 : Nat) (v3 : Int32) (hv1 : Sh n v1 10) (hv2 : Sh n v2 11), BL_law_279 sl sc rec σ ρ v1 v2 v3 = some res → G X cs ss n σ ρ 279 [(0, .ref sb), (1, vr X v1), (2, vr X v2), (3, .int v3)] [] := by
  intro σ ρ v1 v2 v3 hv1 hv2 hM
  unfold BL_law_279 at hM
  refine g_aload_n hC dL_law_279 rfl 1 rfl ?_
  refine g_aload_n hC dL_law_280 rfl 0 rfl ?_
  refine g_iload_n hC dL_law_281 rfl 3 rfl ?_
  refine g_iconst (v := 1) hC dL_law_282 rfl ic_1 ?_
  refine g_iadd hC dL_law_283 rfl ?_
  refine g_sld hC hX dL_law_284 rfl hM (fun x1 hM => ?_)
  refine g_callVi (As := [.int x1]) (st' := []) (k := v1) (L' := 0) hC Y_X11_fault I_X11_fault k_628 ⟨by decide, by decide⟩ hv1 (ci := 10) (by decide) rfl dL_law_285 rfl rfl rfl (Nat.le_of_ble_eq_true rfl) hf hM (fun c hc => c_X11_fault (xE X) v1 hv1 x1 c hc) (fun c2 hM => ?_)
  refine g_aload_n hC dL_law_288 rfl 2 rfl ?_
  refine g_aload_n hC dL_law_289 rfl 0 rfl ?_
  refine g_iload_n hC dL_law_290 rfl 3 rfl ?_
  refine g_iconst (v := 1) hC dL_law_291 rfl ic_1 ?_
  refine g_iadd hC dL_law_292 rfl ?_
  refine g_sld hC hX dL_law_293 rfl hM (fun x3 hM => ?_)
  refine g_callVi (As := [.int x3]) (st' := [.int c2]) (k := v2) (L' := 0) hC Y_X12_fault I_X12_fault k_1451 ⟨by decide, by decide⟩ hv2 (ci := 11) (by decide) rfl dL_law_294 rfl rfl rfl (Nat.le_of_ble_eq_true rfl) hf hM (fun c hc => c_X12_fault (xE X) v2 hv2 x3 c hc) (fun c4 hM => ?_)
  refine g_icmp_eq (tgt := 1271) hC dL_law_297 rfl (by decide) hM (fun hM => ?_) (fun hM => ?_)
  · exact g_sub [0, 1, 2, 3] ((bL_law_1271 hC hml hR hf sl sc hX rec ih ) _ _ _ _ _ hv1 hv2 hM) rfl
  · refine g_iconst (v := 0) hC dL_law_300 rfl ic_0 ?_
    cases hM
    exact hR _ _ _ _ _ _ _ hf.1 hf.2 dL_law_301
def BL_law_302 (sl : Nat) (sc : Nat → Int32) (rec : Sto → Rho → Nat → Nat → Int32 → Option (Int32)) (σ : Sto) (ρ : Rho) (v1 : Nat) (v2 : Nat) (v3 : Int32) : Option (Int32) :=
  Option.bind (sg sl sc ((v3 + (1 : Int32)))) fun x1 =>
  Option.bind (MX11_prime σ ρ v1 x1) fun c2 =>
  Option.bind (sg sl sc ((v3 + (1 : Int32)))) fun x3 =>
  Option.bind (MX12_prime c2.2 ρ v2 x3) fun c4 =>
  if c2.1 = c4.1 then
    BL_law_1271 sl sc rec c4.2 ρ v1 v2 v3
  else
    some ((0 : Int32))
set_option maxHeartbeats 4000000 in
set_option maxRecDepth 100000 in
theorem bL_law_302 {X : CX} {cs ss n : Nat} {res : Int32} (hC : Cx X cL_law RL 12) (hml : (xc X).maxLocals = 4) (hR : RtL X res) (hf : cs ≤ (xR X).cells ∧ ss ≤ (xR X).slots) {sb : Nat} (sl : Nat) (sc : Nat → Int32) (hX : SX X sb sl sc) (rec : Sto → Rho → Nat → Nat → Int32 → Option (Int32)) (ih : ∀ (σ : Sto) (ρ : Rho) (v1 : Nat) (v2 : Nat) (v3 : Int32) (hv1 : Sh n v1 10) (hv2 : Sh n v2 11), rec σ ρ v1 v2 v3 = some res → G X cs ss n σ ρ 18 [(0, .ref sb), (1, vr X v1), (2, vr X v2), (3, .int v3)] []) : ∀ (σ : Sto) (ρ : Rho) (v1 : Nat) (v2 : Nat) (v3 : Int32) (hv1 : Sh n v1 10) (hv2 : Sh n v2 11), BL_law_302 sl sc rec σ ρ v1 v2 v3 = some res → G X cs ss n σ ρ 302 [(0, .ref sb), (1, vr X v1), (2, vr X v2), (3, .int v3)] [] := by
  intro σ ρ v1 v2 v3 hv1 hv2 hM
  unfold BL_law_302 at hM
  refine g_aload_n hC dL_law_302 rfl 1 rfl ?_
  refine g_aload_n hC dL_law_303 rfl 0 rfl ?_
  refine g_iload_n hC dL_law_304 rfl 3 rfl ?_
  refine g_iconst (v := 1) hC dL_law_305 rfl ic_1 ?_
  refine g_iadd hC dL_law_306 rfl ?_
  refine g_sld hC hX dL_law_307 rfl hM (fun x1 hM => ?_)
  refine g_callVi (As := [.int x1]) (st' := []) (k := v1) (L' := 3) hC Y_X11_prime I_X11_prime k_632 ⟨by decide, by decide⟩ hv1 (ci := 10) (by decide) rfl dL_law_308 rfl rfl rfl (Nat.le_of_ble_eq_true rfl) hf hM (fun c hc => c_X11_prime (xE X) v1 hv1 x1 c hc) (fun c2 hM => ?_)
  refine g_aload_n hC dL_law_311 rfl 2 rfl ?_
  refine g_aload_n hC dL_law_312 rfl 0 rfl ?_
  refine g_iload_n hC dL_law_313 rfl 3 rfl ?_
  refine g_iconst (v := 1) hC dL_law_314 rfl ic_1 ?_
  refine g_iadd hC dL_law_315 rfl ?_
  refine g_sld hC hX dL_law_316 rfl hM (fun x3 hM => ?_)
  refine g_callVi (As := [.int x3]) (st' := [.int c2.1]) (k := v2) (L' := 2) hC Y_X12_prime I_X12_prime k_1143 ⟨by decide, by decide⟩ hv2 (ci := 11) (by decide) rfl dL_law_317 rfl rfl rfl (Nat.le_of_ble_eq_true rfl) hf hM (fun c hc => c_X12_prime (xE X) v2 hv2 x3 c hc) (fun c4 hM => ?_)
  refine g_icmp_eq (tgt := 1271) hC dL_law_320 rfl (by decide) hM (fun hM => ?_) (fun hM => ?_)
  · exact g_sub [0, 1, 2, 3] ((bL_law_1271 hC hml hR hf sl sc hX rec ih ) _ _ _ _ _ hv1 hv2 hM) rfl
  · refine g_iconst (v := 0) hC dL_law_323 rfl ic_0 ?_
    cases hM
    exact hR _ _ _ _ _ _ _ hf.1 hf.2 dL_law_324
def BL_law_325 (sl : Nat) (sc : Nat → Int32) (rec : Sto → Rho → Nat → Nat → Int32 → Option (Int32)) (σ : Sto) (ρ : Rho) (v1 : Nat) (v2 : Nat) (v3 : Int32) : Option (Int32) :=
  Option.bind (sg sl sc ((v3 + (1 : Int32)))) fun x1 =>
  Option.bind (sg sl sc ((v3 + (2 : Int32)))) fun x2 =>
  Option.bind (sg sl sc ((v3 + (3 : Int32)))) fun x3 =>
  Option.bind (MX11_set σ ρ v1 x1 x2 x3) fun c4 =>
  Option.bind (sg sl sc ((v3 + (1 : Int32)))) fun x5 =>
  Option.bind (sg sl sc ((v3 + (2 : Int32)))) fun x6 =>
  Option.bind (sg sl sc ((v3 + (3 : Int32)))) fun x7 =>
  Option.bind (MX12_set c4.2 ρ v2 x5 x6 x7) fun c8 =>
  if c4.1 = c8.1 then
    BL_law_1271 sl sc rec c8.2 ρ v1 v2 v3
  else
    some ((0 : Int32))
set_option maxHeartbeats 4000000 in
set_option maxRecDepth 100000 in
theorem bL_law_325 {X : CX} {cs ss n : Nat} {res : Int32} (hC : Cx X cL_law RL 12) (hml : (xc X).maxLocals = 4) (hR : RtL X res) (hf : cs ≤ (xR X).cells ∧ ss ≤ (xR X).slots) {sb : Nat} (sl : Nat) (sc : Nat → Int32) (hX : SX X sb sl sc) (rec : Sto → Rho → Nat → Nat → Int32 → Option (Int32)) (ih : ∀ (σ : Sto) (ρ : Rho) (v1 : Nat) (v2 : Nat) (v3 : Int32) (hv1 : Sh n v1 10) (hv2 : Sh n v2 11), rec σ ρ v1 v2 v3 = some res → G X cs ss n σ ρ 18 [(0, .ref sb), (1, vr X v1), (2, vr X v2), (3, .int v3)] []) : ∀ (σ : Sto) (ρ : Rho) (v1 : Nat) (v2 : Nat) (v3 : Int32) (hv1 : Sh n v1 10) (hv2 : Sh n v2 11), BL_law_325 sl sc rec σ ρ v1 v2 v3 = some res → G X cs ss n σ ρ 325 [(0, .ref sb), (1, vr X v1), (2, vr X v2), (3, .int v3)] [] := by
  intro σ ρ v1 v2 v3 hv1 hv2 hM
  unfold BL_law_325 at hM
  refine g_aload_n hC dL_law_325 rfl 1 rfl ?_
  refine g_aload_n hC dL_law_326 rfl 0 rfl ?_
  refine g_iload_n hC dL_law_327 rfl 3 rfl ?_
  refine g_iconst (v := 1) hC dL_law_328 rfl ic_1 ?_
  refine g_iadd hC dL_law_329 rfl ?_
  refine g_sld hC hX dL_law_330 rfl hM (fun x1 hM => ?_)
  refine g_aload_n hC dL_law_331 rfl 0 rfl ?_
  refine g_iload_n hC dL_law_332 rfl 3 rfl ?_
  refine g_iconst (v := 2) hC dL_law_333 rfl ic_2 ?_
  refine g_iadd hC dL_law_334 rfl ?_
  refine g_sld hC hX dL_law_335 rfl hM (fun x2 hM => ?_)
  refine g_aload_n hC dL_law_336 rfl 0 rfl ?_
  refine g_iload_n hC dL_law_337 rfl 3 rfl ?_
  refine g_iconst (v := 3) hC dL_law_338 rfl ic_3 ?_
  refine g_iadd hC dL_law_339 rfl ?_
  refine g_sld hC hX dL_law_340 rfl hM (fun x3 hM => ?_)
  refine g_callVi (As := [.int x1, .int x2, .int x3]) (st' := []) (k := v1) (L' := 4) hC Y_X11_set I_X11_set k_654 ⟨by decide, by decide⟩ hv1 (ci := 10) (by decide) rfl dL_law_341 rfl rfl rfl (Nat.le_of_ble_eq_true rfl) hf hM (fun c hc => c_X11_set (xE X) v1 hv1 x1 x2 x3 c hc) (fun c4 hM => ?_)
  refine g_aload_n hC dL_law_344 rfl 2 rfl ?_
  refine g_aload_n hC dL_law_345 rfl 0 rfl ?_
  refine g_iload_n hC dL_law_346 rfl 3 rfl ?_
  refine g_iconst (v := 1) hC dL_law_347 rfl ic_1 ?_
  refine g_iadd hC dL_law_348 rfl ?_
  refine g_sld hC hX dL_law_349 rfl hM (fun x5 hM => ?_)
  refine g_aload_n hC dL_law_350 rfl 0 rfl ?_
  refine g_iload_n hC dL_law_351 rfl 3 rfl ?_
  refine g_iconst (v := 2) hC dL_law_352 rfl ic_2 ?_
  refine g_iadd hC dL_law_353 rfl ?_
  refine g_sld hC hX dL_law_354 rfl hM (fun x6 hM => ?_)
  refine g_aload_n hC dL_law_355 rfl 0 rfl ?_
  refine g_iload_n hC dL_law_356 rfl 3 rfl ?_
  refine g_iconst (v := 3) hC dL_law_357 rfl ic_3 ?_
  refine g_iadd hC dL_law_358 rfl ?_
  refine g_sld hC hX dL_law_359 rfl hM (fun x7 hM => ?_)
  refine g_callVi (As := [.int x5, .int x6, .int x7]) (st' := [.int c4.1]) (k := v2) (L' := 4) hC Y_X12_set I_X12_set k_1162 ⟨by decide, by decide⟩ hv2 (ci := 11) (by decide) rfl dL_law_360 rfl rfl rfl (Nat.le_of_ble_eq_true rfl) hf hM (fun c hc => c_X12_set (xE X) v2 hv2 x5 x6 x7 c hc) (fun c8 hM => ?_)
  refine g_icmp_eq (tgt := 1271) hC dL_law_363 rfl (by decide) hM (fun hM => ?_) (fun hM => ?_)
  · exact g_sub [0, 1, 2, 3] ((bL_law_1271 hC hml hR hf sl sc hX rec ih ) _ _ _ _ _ hv1 hv2 hM) rfl
  · refine g_iconst (v := 0) hC dL_law_366 rfl ic_0 ?_
    cases hM
    exact hR _ _ _ _ _ _ _ hf.1 hf.2 dL_law_367
def BL_law_368 (sl : Nat) (sc : Nat → Int32) (rec : Sto → Rho → Nat → Nat → Int32 → Option (Int32)) (σ : Sto) (ρ : Rho) (v1 : Nat) (v2 : Nat) (v3 : Int32) : Option (Int32) :=
  Option.bind (sg sl sc ((v3 + (1 : Int32)))) fun x1 =>
  Option.bind (sg sl sc ((v3 + (2 : Int32)))) fun x2 =>
  Option.bind (sg sl sc ((v3 + (3 : Int32)))) fun x3 =>
  Option.bind (sg sl sc ((v3 + (4 : Int32)))) fun x4 =>
  Option.bind (sg sl sc ((v3 + (5 : Int32)))) fun x5 =>
  Option.bind (MX11_sum σ ρ v1 x1 x2 x3 x4 x5) fun c6 =>
  Option.bind (sg sl sc ((v3 + (1 : Int32)))) fun x7 =>
  Option.bind (sg sl sc ((v3 + (2 : Int32)))) fun x8 =>
  Option.bind (sg sl sc ((v3 + (3 : Int32)))) fun x9 =>
  Option.bind (sg sl sc ((v3 + (4 : Int32)))) fun x10 =>
  Option.bind (sg sl sc ((v3 + (5 : Int32)))) fun x11 =>
  Option.bind (MX12_sum c6.2 ρ v2 x7 x8 x9 x10 x11) fun c12 =>
  if c6.1 = c12.1 then
    BL_law_1271 sl sc rec c12.2 ρ v1 v2 v3
  else
    some ((0 : Int32))
set_option maxHeartbeats 4000000 in
set_option maxRecDepth 100000 in
theorem bL_law_368 {X : CX} {cs ss n : Nat} {res : Int32} (hC : Cx X cL_law RL 12) (hml : (xc X).maxLocals = 4) (hR : RtL X res) (hf : cs ≤ (xR X).cells ∧ ss ≤ (xR X).slots) {sb : Nat} (sl : Nat) (sc : Nat → Int32) (hX : SX X sb sl sc) (rec : Sto → Rho → Nat → Nat → Int32 → Option (Int32)) (ih : ∀ (σ : Sto) (ρ : Rho) (v1 : Nat) (v2 : Nat) (v3 : Int32) (hv1 : Sh n v1 10) (hv2 : Sh n v2 11), rec σ ρ v1 v2 v3 = some res → G X cs ss n σ ρ 18 [(0, .ref sb), (1, vr X v1), (2, vr X v2), (3, .int v3)] []) : ∀ (σ : Sto) (ρ : Rho) (v1 : Nat) (v2 : Nat) (v3 : Int32) (hv1 : Sh n v1 10) (hv2 : Sh n v2 11), BL_law_368 sl sc rec σ ρ v1 v2 v3 = some res → G X cs ss n σ ρ 368 [(0, .ref sb), (1, vr X v1), (2, vr X v2), (3, .int v3)] [] := by
  intro σ ρ v1 v2 v3 hv1 hv2 hM
  unfold BL_law_368 at hM
  refine g_aload_n hC dL_law_368 rfl 1 rfl ?_
  refine g_aload_n hC dL_law_369 rfl 0 rfl ?_
  refine g_iload_n hC dL_law_370 rfl 3 rfl ?_
  refine g_iconst (v := 1) hC dL_law_371 rfl ic_1 ?_
  refine g_iadd hC dL_law_372 rfl ?_
  refine g_sld hC hX dL_law_373 rfl hM (fun x1 hM => ?_)
  refine g_aload_n hC dL_law_374 rfl 0 rfl ?_
  refine g_iload_n hC dL_law_375 rfl 3 rfl ?_
  refine g_iconst (v := 2) hC dL_law_376 rfl ic_2 ?_
  refine g_iadd hC dL_law_377 rfl ?_
  refine g_sld hC hX dL_law_378 rfl hM (fun x2 hM => ?_)
  refine g_aload_n hC dL_law_379 rfl 0 rfl ?_
  refine g_iload_n hC dL_law_380 rfl 3 rfl ?_
  refine g_iconst (v := 3) hC dL_law_381 rfl ic_3 ?_
  refine g_iadd hC dL_law_382 rfl ?_
  refine g_sld hC hX dL_law_383 rfl hM (fun x3 hM => ?_)
  refine g_aload_n hC dL_law_384 rfl 0 rfl ?_
  refine g_iload_n hC dL_law_385 rfl 3 rfl ?_
  refine g_iconst (v := 4) hC dL_law_386 rfl ic_4 ?_
  refine g_iadd hC dL_law_387 rfl ?_
  refine g_sld hC hX dL_law_388 rfl hM (fun x4 hM => ?_)
  refine g_aload_n hC dL_law_389 rfl 0 rfl ?_
  refine g_iload_n hC dL_law_390 rfl 3 rfl ?_
  refine g_iconst (v := 5) hC dL_law_391 rfl ic_5 ?_
  refine g_iadd hC dL_law_392 rfl ?_
  refine g_sld hC hX dL_law_393 rfl hM (fun x5 hM => ?_)
  refine g_callVi (As := [.int x1, .int x2, .int x3, .int x4, .int x5]) (st' := []) (k := v1) (L' := 4) hC Y_X11_sum I_X11_sum k_677 ⟨by decide, by decide⟩ hv1 (ci := 10) (by decide) rfl dL_law_394 rfl rfl rfl (Nat.le_of_ble_eq_true rfl) hf hM (fun c hc => c_X11_sum (xE X) v1 hv1 x1 x2 x3 x4 x5 c hc) (fun c6 hM => ?_)
  refine g_aload_n hC dL_law_397 rfl 2 rfl ?_
  refine g_aload_n hC dL_law_398 rfl 0 rfl ?_
  refine g_iload_n hC dL_law_399 rfl 3 rfl ?_
  refine g_iconst (v := 1) hC dL_law_400 rfl ic_1 ?_
  refine g_iadd hC dL_law_401 rfl ?_
  refine g_sld hC hX dL_law_402 rfl hM (fun x7 hM => ?_)
  refine g_aload_n hC dL_law_403 rfl 0 rfl ?_
  refine g_iload_n hC dL_law_404 rfl 3 rfl ?_
  refine g_iconst (v := 2) hC dL_law_405 rfl ic_2 ?_
  refine g_iadd hC dL_law_406 rfl ?_
  refine g_sld hC hX dL_law_407 rfl hM (fun x8 hM => ?_)
  refine g_aload_n hC dL_law_408 rfl 0 rfl ?_
  refine g_iload_n hC dL_law_409 rfl 3 rfl ?_
  refine g_iconst (v := 3) hC dL_law_410 rfl ic_3 ?_
  refine g_iadd hC dL_law_411 rfl ?_
  refine g_sld hC hX dL_law_412 rfl hM (fun x9 hM => ?_)
  refine g_aload_n hC dL_law_413 rfl 0 rfl ?_
  refine g_iload_n hC dL_law_414 rfl 3 rfl ?_
  refine g_iconst (v := 4) hC dL_law_415 rfl ic_4 ?_
  refine g_iadd hC dL_law_416 rfl ?_
  refine g_sld hC hX dL_law_417 rfl hM (fun x10 hM => ?_)
  refine g_aload_n hC dL_law_418 rfl 0 rfl ?_
  refine g_iload_n hC dL_law_419 rfl 3 rfl ?_
  refine g_iconst (v := 5) hC dL_law_420 rfl ic_5 ?_
  refine g_iadd hC dL_law_421 rfl ?_
  refine g_sld hC hX dL_law_422 rfl hM (fun x11 hM => ?_)
  refine g_callVi (As := [.int x7, .int x8, .int x9, .int x10, .int x11]) (st' := [.int c6.1]) (k := v2) (L' := 4) hC Y_X12_sum I_X12_sum k_1191 ⟨by decide, by decide⟩ hv2 (ci := 11) (by decide) rfl dL_law_423 rfl rfl rfl (Nat.le_of_ble_eq_true rfl) hf hM (fun c hc => c_X12_sum (xE X) v2 hv2 x7 x8 x9 x10 x11 c hc) (fun c12 hM => ?_)
  refine g_icmp_eq (tgt := 1271) hC dL_law_426 rfl (by decide) hM (fun hM => ?_) (fun hM => ?_)
  · exact g_sub [0, 1, 2, 3] ((bL_law_1271 hC hml hR hf sl sc hX rec ih ) _ _ _ _ _ hv1 hv2 hM) rfl
  · refine g_iconst (v := 0) hC dL_law_429 rfl ic_0 ?_
    cases hM
    exact hR _ _ _ _ _ _ _ hf.1 hf.2 dL_law_430
def BL_law_431 (sl : Nat) (sc : Nat → Int32) (rec : Sto → Rho → Nat → Nat → Int32 → Option (Int32)) (σ : Sto) (ρ : Rho) (v1 : Nat) (v2 : Nat) (v3 : Int32) : Option (Int32) :=
  Option.bind (sg sl sc ((v3 + (1 : Int32)))) fun x1 =>
  Option.bind (sg sl sc ((v3 + (2 : Int32)))) fun x2 =>
  Option.bind (MX11_turn σ ρ v1 x1 x2) fun c3 =>
  Option.bind (sg sl sc ((v3 + (1 : Int32)))) fun x4 =>
  Option.bind (sg sl sc ((v3 + (2 : Int32)))) fun x5 =>
  Option.bind (MX12_turn c3.2 ρ v2 x4 x5) fun c6 =>
  if c3.1 = c6.1 then
    BL_law_1271 sl sc rec c6.2 ρ v1 v2 v3
  else
    some ((0 : Int32))
set_option maxHeartbeats 4000000 in
set_option maxRecDepth 100000 in
theorem bL_law_431 {X : CX} {cs ss n : Nat} {res : Int32} (hC : Cx X cL_law RL 12) (hml : (xc X).maxLocals = 4) (hR : RtL X res) (hf : cs ≤ (xR X).cells ∧ ss ≤ (xR X).slots) {sb : Nat} (sl : Nat) (sc : Nat → Int32) (hX : SX X sb sl sc) (rec : Sto → Rho → Nat → Nat → Int32 → Option (Int32)) (ih : ∀ (σ : Sto) (ρ : Rho) (v1 : Nat) (v2 : Nat) (v3 : Int32) (hv1 : Sh n v1 10) (hv2 : Sh n v2 11), rec σ ρ v1 v2 v3 = some res → G X cs ss n σ ρ 18 [(0, .ref sb), (1, vr X v1), (2, vr X v2), (3, .int v3)] []) : ∀ (σ : Sto) (ρ : Rho) (v1 : Nat) (v2 : Nat) (v3 : Int32) (hv1 : Sh n v1 10) (hv2 : Sh n v2 11), BL_law_431 sl sc rec σ ρ v1 v2 v3 = some res → G X cs ss n σ ρ 431 [(0, .ref sb), (1, vr X v1), (2, vr X v2), (3, .int v3)] [] := by
  intro σ ρ v1 v2 v3 hv1 hv2 hM
  unfold BL_law_431 at hM
  refine g_aload_n hC dL_law_431 rfl 1 rfl ?_
  refine g_aload_n hC dL_law_432 rfl 0 rfl ?_
  refine g_iload_n hC dL_law_433 rfl 3 rfl ?_
  refine g_iconst (v := 1) hC dL_law_434 rfl ic_1 ?_
  refine g_iadd hC dL_law_435 rfl ?_
  refine g_sld hC hX dL_law_436 rfl hM (fun x1 hM => ?_)
  refine g_aload_n hC dL_law_437 rfl 0 rfl ?_
  refine g_iload_n hC dL_law_438 rfl 3 rfl ?_
  refine g_iconst (v := 2) hC dL_law_439 rfl ic_2 ?_
  refine g_iadd hC dL_law_440 rfl ?_
  refine g_sld hC hX dL_law_441 rfl hM (fun x2 hM => ?_)
  refine g_callVi (As := [.int x1, .int x2]) (st' := []) (k := v1) (L' := 5) hC Y_X11_turn I_X11_turn k_685 ⟨by decide, by decide⟩ hv1 (ci := 10) (by decide) rfl dL_law_442 rfl rfl rfl (Nat.le_of_ble_eq_true rfl) hf hM (fun c hc => c_X11_turn (xE X) v1 hv1 x1 x2 c hc) (fun c3 hM => ?_)
  refine g_aload_n hC dL_law_445 rfl 2 rfl ?_
  refine g_aload_n hC dL_law_446 rfl 0 rfl ?_
  refine g_iload_n hC dL_law_447 rfl 3 rfl ?_
  refine g_iconst (v := 1) hC dL_law_448 rfl ic_1 ?_
  refine g_iadd hC dL_law_449 rfl ?_
  refine g_sld hC hX dL_law_450 rfl hM (fun x4 hM => ?_)
  refine g_aload_n hC dL_law_451 rfl 0 rfl ?_
  refine g_iload_n hC dL_law_452 rfl 3 rfl ?_
  refine g_iconst (v := 2) hC dL_law_453 rfl ic_2 ?_
  refine g_iadd hC dL_law_454 rfl ?_
  refine g_sld hC hX dL_law_455 rfl hM (fun x5 hM => ?_)
  refine g_callVi (As := [.int x4, .int x5]) (st' := [.int c3.1]) (k := v2) (L' := 5) hC Y_X12_turn I_X12_turn k_1195 ⟨by decide, by decide⟩ hv2 (ci := 11) (by decide) rfl dL_law_456 rfl rfl rfl (Nat.le_of_ble_eq_true rfl) hf hM (fun c hc => c_X12_turn (xE X) v2 hv2 x4 x5 c hc) (fun c6 hM => ?_)
  refine g_icmp_eq (tgt := 1271) hC dL_law_459 rfl (by decide) hM (fun hM => ?_) (fun hM => ?_)
  · exact g_sub [0, 1, 2, 3] ((bL_law_1271 hC hml hR hf sl sc hX rec ih ) _ _ _ _ _ hv1 hv2 hM) rfl
  · refine g_iconst (v := 0) hC dL_law_462 rfl ic_0 ?_
    cases hM
    exact hR _ _ _ _ _ _ _ hf.1 hf.2 dL_law_463
def BL_law_464 (sl : Nat) (sc : Nat → Int32) (rec : Sto → Rho → Nat → Nat → Int32 → Option (Int32)) (σ : Sto) (ρ : Rho) (v1 : Nat) (v2 : Nat) (v3 : Int32) : Option (Int32) :=
  Option.bind (sg sl sc ((v3 + (1 : Int32)))) fun x1 =>
  Option.bind (sg sl sc ((v3 + (2 : Int32)))) fun x2 =>
  Option.bind (MX11_twist σ ρ v1 x1 x2) fun c3 =>
  Option.bind (sg sl sc ((v3 + (1 : Int32)))) fun x4 =>
  Option.bind (sg sl sc ((v3 + (2 : Int32)))) fun x5 =>
  Option.bind (MX12_twist c3.2 ρ v2 x4 x5) fun c6 =>
  if c3.1 = c6.1 then
    BL_law_1271 sl sc rec c6.2 ρ v1 v2 v3
  else
    some ((0 : Int32))
set_option maxHeartbeats 4000000 in
set_option maxRecDepth 100000 in
theorem bL_law_464 {X : CX} {cs ss n : Nat} {res : Int32} (hC : Cx X cL_law RL 12) (hml : (xc X).maxLocals = 4) (hR : RtL X res) (hf : cs ≤ (xR X).cells ∧ ss ≤ (xR X).slots) {sb : Nat} (sl : Nat) (sc : Nat → Int32) (hX : SX X sb sl sc) (rec : Sto → Rho → Nat → Nat → Int32 → Option (Int32)) (ih : ∀ (σ : Sto) (ρ : Rho) (v1 : Nat) (v2 : Nat) (v3 : Int32) (hv1 : Sh n v1 10) (hv2 : Sh n v2 11), rec σ ρ v1 v2 v3 = some res → G X cs ss n σ ρ 18 [(0, .ref sb), (1, vr X v1), (2, vr X v2), (3, .int v3)] []) : ∀ (σ : Sto) (ρ : Rho) (v1 : Nat) (v2 : Nat) (v3 : Int32) (hv1 : Sh n v1 10) (hv2 : Sh n v2 11), BL_law_464 sl sc rec σ ρ v1 v2 v3 = some res → G X cs ss n σ ρ 464 [(0, .ref sb), (1, vr X v1), (2, vr X v2), (3, .int v3)] [] := by
  intro σ ρ v1 v2 v3 hv1 hv2 hM
  unfold BL_law_464 at hM
  refine g_aload_n hC dL_law_464 rfl 1 rfl ?_
  refine g_aload_n hC dL_law_465 rfl 0 rfl ?_
  refine g_iload_n hC dL_law_466 rfl 3 rfl ?_
  refine g_iconst (v := 1) hC dL_law_467 rfl ic_1 ?_
  refine g_iadd hC dL_law_468 rfl ?_
  refine g_sld hC hX dL_law_469 rfl hM (fun x1 hM => ?_)
  refine g_aload_n hC dL_law_470 rfl 0 rfl ?_
  refine g_iload_n hC dL_law_471 rfl 3 rfl ?_
  refine g_iconst (v := 2) hC dL_law_472 rfl ic_2 ?_
  refine g_iadd hC dL_law_473 rfl ?_
  refine g_sld hC hX dL_law_474 rfl hM (fun x2 hM => ?_)
  refine g_callVi (As := [.int x1, .int x2]) (st' := []) (k := v1) (L' := 4) hC Y_X11_twist I_X11_twist k_735 ⟨by decide, by decide⟩ hv1 (ci := 10) (by decide) rfl dL_law_475 rfl rfl rfl (Nat.le_of_ble_eq_true rfl) hf hM (fun c hc => c_X11_twist (xE X) v1 hv1 x1 x2 c hc) (fun c3 hM => ?_)
  refine g_aload_n hC dL_law_478 rfl 2 rfl ?_
  refine g_aload_n hC dL_law_479 rfl 0 rfl ?_
  refine g_iload_n hC dL_law_480 rfl 3 rfl ?_
  refine g_iconst (v := 1) hC dL_law_481 rfl ic_1 ?_
  refine g_iadd hC dL_law_482 rfl ?_
  refine g_sld hC hX dL_law_483 rfl hM (fun x4 hM => ?_)
  refine g_aload_n hC dL_law_484 rfl 0 rfl ?_
  refine g_iload_n hC dL_law_485 rfl 3 rfl ?_
  refine g_iconst (v := 2) hC dL_law_486 rfl ic_2 ?_
  refine g_iadd hC dL_law_487 rfl ?_
  refine g_sld hC hX dL_law_488 rfl hM (fun x5 hM => ?_)
  refine g_callVi (As := [.int x4, .int x5]) (st' := [.int c3.1]) (k := v2) (L' := 4) hC Y_X12_twist I_X12_twist k_1247 ⟨by decide, by decide⟩ hv2 (ci := 11) (by decide) rfl dL_law_489 rfl rfl rfl (Nat.le_of_ble_eq_true rfl) hf hM (fun c hc => c_X12_twist (xE X) v2 hv2 x4 x5 c hc) (fun c6 hM => ?_)
  refine g_icmp_eq (tgt := 1271) hC dL_law_492 rfl (by decide) hM (fun hM => ?_) (fun hM => ?_)
  · exact g_sub [0, 1, 2, 3] ((bL_law_1271 hC hml hR hf sl sc hX rec ih ) _ _ _ _ _ hv1 hv2 hM) rfl
  · refine g_iconst (v := 0) hC dL_law_495 rfl ic_0 ?_
    cases hM
    exact hR _ _ _ _ _ _ _ hf.1 hf.2 dL_law_496
def BL_law_497 (sl : Nat) (sc : Nat → Int32) (rec : Sto → Rho → Nat → Nat → Int32 → Option (Int32)) (σ : Sto) (ρ : Rho) (v1 : Nat) (v2 : Nat) (v3 : Int32) : Option (Int32) :=
  Option.bind (sg sl sc ((v3 + (1 : Int32)))) fun x1 =>
  Option.bind (MX11_through σ ρ v1 x1) fun c2 =>
  Option.bind (sg sl sc ((v3 + (1 : Int32)))) fun x3 =>
  Option.bind (MX12_through c2.2.1 c2.2.2 v2 x3) fun c4 =>
  if c2.1 = c4.1 then
    BL_law_1271 sl sc rec c4.2 c2.2.2 v1 v2 v3
  else
    some ((0 : Int32))
set_option maxHeartbeats 4000000 in
set_option maxRecDepth 100000 in
theorem bL_law_497 {X : CX} {cs ss n : Nat} {res : Int32} (hC : Cx X cL_law RL 12) (hml : (xc X).maxLocals = 4) (hR : RtL X res) (hf : cs ≤ (xR X).cells ∧ ss ≤ (xR X).slots) {sb : Nat} (sl : Nat) (sc : Nat → Int32) (hX : SX X sb sl sc) (rec : Sto → Rho → Nat → Nat → Int32 → Option (Int32)) (ih : ∀ (σ : Sto) (ρ : Rho) (v1 : Nat) (v2 : Nat) (v3 : Int32) (hv1 : Sh n v1 10) (hv2 : Sh n v2 11), rec σ ρ v1 v2 v3 = some res → G X cs ss n σ ρ 18 [(0, .ref sb), (1, vr X v1), (2, vr X v2), (3, .int v3)] []) : ∀ (σ : Sto) (ρ : Rho) (v1 : Nat) (v2 : Nat) (v3 : Int32) (hv1 : Sh n v1 10) (hv2 : Sh n v2 11), BL_law_497 sl sc rec σ ρ v1 v2 v3 = some res → G X cs ss n σ ρ 497 [(0, .ref sb), (1, vr X v1), (2, vr X v2), (3, .int v3)] [] := by
  intro σ ρ v1 v2 v3 hv1 hv2 hM
  unfold BL_law_497 at hM
  refine g_aload_n hC dL_law_497 rfl 1 rfl ?_
  refine g_aload_n hC dL_law_498 rfl 0 rfl ?_
  refine g_iload_n hC dL_law_499 rfl 3 rfl ?_
  refine g_iconst (v := 1) hC dL_law_500 rfl ic_1 ?_
  refine g_iadd hC dL_law_501 rfl ?_
  refine g_sld hC hX dL_law_502 rfl hM (fun x1 hM => ?_)
  refine g_callVi (As := [.int x1]) (st' := []) (k := v1) (L' := 6) hC Y_X11_through I_X11_through k_751 ⟨by decide, by decide⟩ hv1 (ci := 10) (by decide) rfl dL_law_503 rfl rfl rfl (Nat.le_of_ble_eq_true rfl) hf hM (fun c hc => c_X11_through (xE X) v1 hv1 x1 c hc) (fun c2 hM => ?_)
  refine g_aload_n hC dL_law_506 rfl 2 rfl ?_
  refine g_aload_n hC dL_law_507 rfl 0 rfl ?_
  refine g_iload_n hC dL_law_508 rfl 3 rfl ?_
  refine g_iconst (v := 1) hC dL_law_509 rfl ic_1 ?_
  refine g_iadd hC dL_law_510 rfl ?_
  refine g_sld hC hX dL_law_511 rfl hM (fun x3 hM => ?_)
  refine g_callVi (As := [.int x3]) (st' := [.int c2.1]) (k := v2) (L' := 4) hC Y_X12_through I_X12_through k_1251 ⟨by decide, by decide⟩ hv2 (ci := 11) (by decide) rfl dL_law_512 rfl rfl rfl (Nat.le_of_ble_eq_true rfl) hf hM (fun c hc => c_X12_through (xE X) v2 hv2 x3 c hc) (fun c4 hM => ?_)
  refine g_icmp_eq (tgt := 1271) hC dL_law_515 rfl (by decide) hM (fun hM => ?_) (fun hM => ?_)
  · exact g_sub [0, 1, 2, 3] ((bL_law_1271 hC hml hR hf sl sc hX rec ih ) _ _ _ _ _ hv1 hv2 hM) rfl
  · refine g_iconst (v := 0) hC dL_law_518 rfl ic_0 ?_
    cases hM
    exact hR _ _ _ _ _ _ _ hf.1 hf.2 dL_law_519
def BL_law_561 (sl : Nat) (sc : Nat → Int32) (rec : Sto → Rho → Nat → Nat → Int32 → Option (Int32)) (σ : Sto) (ρ : Rho) (v1 : Nat) (v2 : Nat) (v3 : Int32) (t0 : Int32) (t1 : Nat) (t2 : Int32) (t3 : Int32) : Option (Int32) :=
  Option.bind (MX12_mark σ ρ t1 t2 t3) fun c1 =>
  if t0 = c1.1 then
    BL_law_1271 sl sc rec c1.2 ρ v1 v2 v3
  else
    some ((0 : Int32))
set_option maxHeartbeats 4000000 in
set_option maxRecDepth 100000 in
theorem bL_law_561 {X : CX} {cs ss n : Nat} {res : Int32} (hC : Cx X cL_law RL 12) (hml : (xc X).maxLocals = 4) (hR : RtL X res) (hf : cs ≤ (xR X).cells ∧ ss ≤ (xR X).slots) {sb : Nat} (sl : Nat) (sc : Nat → Int32) (hX : SX X sb sl sc) (rec : Sto → Rho → Nat → Nat → Int32 → Option (Int32)) (ih : ∀ (σ : Sto) (ρ : Rho) (v1 : Nat) (v2 : Nat) (v3 : Int32) (hv1 : Sh n v1 10) (hv2 : Sh n v2 11), rec σ ρ v1 v2 v3 = some res → G X cs ss n σ ρ 18 [(0, .ref sb), (1, vr X v1), (2, vr X v2), (3, .int v3)] []) : ∀ (σ : Sto) (ρ : Rho) (v1 : Nat) (v2 : Nat) (v3 : Int32) (t0 : Int32) (t1 : Nat) (t2 : Int32) (t3 : Int32) (hv1 : Sh n v1 10) (hv2 : Sh n v2 11) (ht1 : Sh n t1 11), BL_law_561 sl sc rec σ ρ v1 v2 v3 t0 t1 t2 t3 = some res → G X cs ss n σ ρ 561 [(0, .ref sb), (1, vr X v1), (2, vr X v2), (3, .int v3)] [.int t3, .int t2, vr X t1, .int t0] := by
  intro σ ρ v1 v2 v3 t0 t1 t2 t3 hv1 hv2 ht1 hM
  unfold BL_law_561 at hM
  refine g_callVi (As := [.int t2, .int t3]) (st' := [.int t0]) (k := t1) (L' := 2) hC Y_X12_mark I_X12_mark k_1267 ⟨by decide, by decide⟩ ht1 (ci := 11) (by decide) rfl dL_law_561 rfl rfl rfl (Nat.le_of_ble_eq_true rfl) hf hM (fun c hc => c_X12_mark (xE X) t1 ht1 t2 t3 c hc) (fun c1 hM => ?_)
  refine g_icmp_eq (tgt := 1271) hC dL_law_564 rfl (by decide) hM (fun hM => ?_) (fun hM => ?_)
  · exact g_sub [0, 1, 2, 3] ((bL_law_1271 hC hml hR hf sl sc hX rec ih ) _ _ _ _ _ hv1 hv2 hM) rfl
  · refine g_iconst (v := 0) hC dL_law_567 rfl ic_0 ?_
    cases hM
    exact hR _ _ _ _ _ _ _ hf.1 hf.2 dL_law_568
def BL_law_539 (sl : Nat) (sc : Nat → Int32) (rec : Sto → Rho → Nat → Nat → Int32 → Option (Int32)) (σ : Sto) (ρ : Rho) (v1 : Nat) (v2 : Nat) (v3 : Int32) (t0 : Nat) (t1 : Int32) (t2 : Int32) : Option (Int32) :=
  Option.bind (MX11_mark σ ρ t0 t1 t2) fun c1 =>
  Option.bind (sg sl sc ((v3 + (1 : Int32)))) fun x2 =>
  Option.bind (sg sl sc ((v3 + (2 : Int32)))) fun x3 =>
  if x3 = 0 then
    BL_law_561 sl sc rec c1.2 ρ v1 v2 v3 c1.1 v2 x2 ((0 : Int32))
  else
    BL_law_561 sl sc rec c1.2 ρ v1 v2 v3 c1.1 v2 x2 ((1 : Int32))
set_option maxHeartbeats 4000000 in
set_option maxRecDepth 100000 in
theorem bL_law_539 {X : CX} {cs ss n : Nat} {res : Int32} (hC : Cx X cL_law RL 12) (hml : (xc X).maxLocals = 4) (hR : RtL X res) (hf : cs ≤ (xR X).cells ∧ ss ≤ (xR X).slots) {sb : Nat} (sl : Nat) (sc : Nat → Int32) (hX : SX X sb sl sc) (rec : Sto → Rho → Nat → Nat → Int32 → Option (Int32)) (ih : ∀ (σ : Sto) (ρ : Rho) (v1 : Nat) (v2 : Nat) (v3 : Int32) (hv1 : Sh n v1 10) (hv2 : Sh n v2 11), rec σ ρ v1 v2 v3 = some res → G X cs ss n σ ρ 18 [(0, .ref sb), (1, vr X v1), (2, vr X v2), (3, .int v3)] []) : ∀ (σ : Sto) (ρ : Rho) (v1 : Nat) (v2 : Nat) (v3 : Int32) (t0 : Nat) (t1 : Int32) (t2 : Int32) (hv1 : Sh n v1 10) (hv2 : Sh n v2 11) (ht0 : Sh n t0 10), BL_law_539 sl sc rec σ ρ v1 v2 v3 t0 t1 t2 = some res → G X cs ss n σ ρ 539 [(0, .ref sb), (1, vr X v1), (2, vr X v2), (3, .int v3)] [.int t2, .int t1, vr X t0] := by
  intro σ ρ v1 v2 v3 t0 t1 t2 hv1 hv2 ht0 hM
  unfold BL_law_539 at hM
  refine g_callVi (As := [.int t1, .int t2]) (st' := []) (k := t0) (L' := 3) hC Y_X11_mark I_X11_mark k_786 ⟨by decide, by decide⟩ ht0 (ci := 10) (by decide) rfl dL_law_539 rfl rfl rfl (Nat.le_of_ble_eq_true rfl) hf hM (fun c hc => c_X11_mark (xE X) t0 ht0 t1 t2 c hc) (fun c1 hM => ?_)
  refine g_aload_n hC dL_law_542 rfl 2 rfl ?_
  refine g_aload_n hC dL_law_543 rfl 0 rfl ?_
  refine g_iload_n hC dL_law_544 rfl 3 rfl ?_
  refine g_iconst (v := 1) hC dL_law_545 rfl ic_1 ?_
  refine g_iadd hC dL_law_546 rfl ?_
  refine g_sld hC hX dL_law_547 rfl hM (fun x2 hM => ?_)
  refine g_aload_n hC dL_law_548 rfl 0 rfl ?_
  refine g_iload_n hC dL_law_549 rfl 3 rfl ?_
  refine g_iconst (v := 2) hC dL_law_550 rfl ic_2 ?_
  refine g_iadd hC dL_law_551 rfl ?_
  refine g_sld hC hX dL_law_552 rfl hM (fun x3 hM => ?_)
  refine g_if_eq (tgt := 560) hC dL_law_553 rfl (by decide) hM (fun hM => ?_) (fun hM => ?_)
  · refine g_iconst (v := 0) hC dL_law_560 rfl ic_0 ?_
    exact g_sub [0, 1, 2, 3] ((bL_law_561 hC hml hR hf sl sc hX rec ih ) _ _ _ _ _ _ _ _ _ hv1 hv2 hv2 hM) rfl
  · refine g_iconst (v := 1) hC dL_law_556 rfl ic_1 ?_
    refine g_goto (tgt := 561) hC dL_law_557 rfl (by decide) ?_
    exact g_sub [0, 1, 2, 3] ((bL_law_561 hC hml hR hf sl sc hX rec ih ) _ _ _ _ _ _ _ _ _ hv1 hv2 hv2 hM) rfl
def BL_law_520 (sl : Nat) (sc : Nat → Int32) (rec : Sto → Rho → Nat → Nat → Int32 → Option (Int32)) (σ : Sto) (ρ : Rho) (v1 : Nat) (v2 : Nat) (v3 : Int32) : Option (Int32) :=
  Option.bind (sg sl sc ((v3 + (1 : Int32)))) fun x1 =>
  Option.bind (sg sl sc ((v3 + (2 : Int32)))) fun x2 =>
  if x2 = 0 then
    BL_law_539 sl sc rec σ ρ v1 v2 v3 v1 x1 ((0 : Int32))
  else
    BL_law_539 sl sc rec σ ρ v1 v2 v3 v1 x1 ((1 : Int32))
set_option maxHeartbeats 4000000 in
set_option maxRecDepth 100000 in
theorem bL_law_520 {X : CX} {cs ss n : Nat} {res : Int32} (hC : Cx X cL_law RL 12) (hml : (xc X).maxLocals = 4) (hR : RtL X res) (hf : cs ≤ (xR X).cells ∧ ss ≤ (xR X).slots) {sb : Nat} (sl : Nat) (sc : Nat → Int32) (hX : SX X sb sl sc) (rec : Sto → Rho → Nat → Nat → Int32 → Option (Int32)) (ih : ∀ (σ : Sto) (ρ : Rho) (v1 : Nat) (v2 : Nat) (v3 : Int32) (hv1 : Sh n v1 10) (hv2 : Sh n v2 11), rec σ ρ v1 v2 v3 = some res → G X cs ss n σ ρ 18 [(0, .ref sb), (1, vr X v1), (2, vr X v2), (3, .int v3)] []) : ∀ (σ : Sto) (ρ : Rho) (v1 : Nat) (v2 : Nat) (v3 : Int32) (hv1 : Sh n v1 10) (hv2 : Sh n v2 11), BL_law_520 sl sc rec σ ρ v1 v2 v3 = some res → G X cs ss n σ ρ 520 [(0, .ref sb), (1, vr X v1), (2, vr X v2), (3, .int v3)] [] := by
  intro σ ρ v1 v2 v3 hv1 hv2 hM
  unfold BL_law_520 at hM
  refine g_aload_n hC dL_law_520 rfl 1 rfl ?_
  refine g_aload_n hC dL_law_521 rfl 0 rfl ?_
  refine g_iload_n hC dL_law_522 rfl 3 rfl ?_
  refine g_iconst (v := 1) hC dL_law_523 rfl ic_1 ?_
  refine g_iadd hC dL_law_524 rfl ?_
  refine g_sld hC hX dL_law_525 rfl hM (fun x1 hM => ?_)
  refine g_aload_n hC dL_law_526 rfl 0 rfl ?_
  refine g_iload_n hC dL_law_527 rfl 3 rfl ?_
  refine g_iconst (v := 2) hC dL_law_528 rfl ic_2 ?_
  refine g_iadd hC dL_law_529 rfl ?_
  refine g_sld hC hX dL_law_530 rfl hM (fun x2 hM => ?_)
  refine g_if_eq (tgt := 538) hC dL_law_531 rfl (by decide) hM (fun hM => ?_) (fun hM => ?_)
  · refine g_iconst (v := 0) hC dL_law_538 rfl ic_0 ?_
    exact g_sub [0, 1, 2, 3] ((bL_law_539 hC hml hR hf sl sc hX rec ih ) _ _ _ _ _ _ _ _ hv1 hv2 hv1 hM) rfl
  · refine g_iconst (v := 1) hC dL_law_534 rfl ic_1 ?_
    refine g_goto (tgt := 539) hC dL_law_535 rfl (by decide) ?_
    exact g_sub [0, 1, 2, 3] ((bL_law_539 hC hml hR hf sl sc hX rec ih ) _ _ _ _ _ _ _ _ hv1 hv2 hv1 hM) rfl
def BL_law_569 (sl : Nat) (sc : Nat → Int32) (rec : Sto → Rho → Nat → Nat → Int32 → Option (Int32)) (σ : Sto) (ρ : Rho) (v1 : Nat) (v2 : Nat) (v3 : Int32) : Option (Int32) :=
  Option.bind (sg sl sc ((v3 + (1 : Int32)))) fun x1 =>
  Option.bind (MX11_why σ ρ v1 x1) fun c2 =>
  Option.bind (sg sl sc ((v3 + (1 : Int32)))) fun x3 =>
  Option.bind (MX12_why σ ρ v2 x3) fun c4 =>
  if c2 = c4 then
    BL_law_1271 sl sc rec σ ρ v1 v2 v3
  else
    some ((0 : Int32))
set_option maxHeartbeats 4000000 in
set_option maxRecDepth 100000 in
theorem bL_law_569 {X : CX} {cs ss n : Nat} {res : Int32} (hC : Cx X cL_law RL 12) (hml : (xc X).maxLocals = 4) (hR : RtL X res) (hf : cs ≤ (xR X).cells ∧ ss ≤ (xR X).slots) {sb : Nat} (sl : Nat) (sc : Nat → Int32) (hX : SX X sb sl sc) (rec : Sto → Rho → Nat → Nat → Int32 → Option (Int32)) (ih : ∀ (σ : Sto) (ρ : Rho) (v1 : Nat) (v2 : Nat) (v3 : Int32) (hv1 : Sh n v1 10) (hv2 : Sh n v2 11), rec σ ρ v1 v2 v3 = some res → G X cs ss n σ ρ 18 [(0, .ref sb), (1, vr X v1), (2, vr X v2), (3, .int v3)] []) : ∀ (σ : Sto) (ρ : Rho) (v1 : Nat) (v2 : Nat) (v3 : Int32) (hv1 : Sh n v1 10) (hv2 : Sh n v2 11), BL_law_569 sl sc rec σ ρ v1 v2 v3 = some res → G X cs ss n σ ρ 569 [(0, .ref sb), (1, vr X v1), (2, vr X v2), (3, .int v3)] [] := by
  intro σ ρ v1 v2 v3 hv1 hv2 hM
  unfold BL_law_569 at hM
  refine g_aload_n hC dL_law_569 rfl 1 rfl ?_
  refine g_aload_n hC dL_law_570 rfl 0 rfl ?_
  refine g_iload_n hC dL_law_571 rfl 3 rfl ?_
  refine g_iconst (v := 1) hC dL_law_572 rfl ic_1 ?_
  refine g_iadd hC dL_law_573 rfl ?_
  refine g_sld hC hX dL_law_574 rfl hM (fun x1 hM => ?_)
  refine g_callVi (As := [.int x1]) (st' := []) (k := v1) (L' := 0) hC Y_X11_why I_X11_why k_797 ⟨by decide, by decide⟩ hv1 (ci := 10) (by decide) rfl dL_law_575 rfl rfl rfl (Nat.le_of_ble_eq_true rfl) hf hM (fun c hc => c_X11_why (xE X) v1 hv1 x1 c hc) (fun c2 hM => ?_)
  refine g_aload_n hC dL_law_578 rfl 2 rfl ?_
  refine g_aload_n hC dL_law_579 rfl 0 rfl ?_
  refine g_iload_n hC dL_law_580 rfl 3 rfl ?_
  refine g_iconst (v := 1) hC dL_law_581 rfl ic_1 ?_
  refine g_iadd hC dL_law_582 rfl ?_
  refine g_sld hC hX dL_law_583 rfl hM (fun x3 hM => ?_)
  refine g_callVi (As := [.int x3]) (st' := [.int c2]) (k := v2) (L' := 1) hC Y_X12_why I_X12_why k_1279 ⟨by decide, by decide⟩ hv2 (ci := 11) (by decide) rfl dL_law_584 rfl rfl rfl (Nat.le_of_ble_eq_true rfl) hf hM (fun c hc => c_X12_why (xE X) v2 hv2 x3 c hc) (fun c4 hM => ?_)
  refine g_icmp_eq (tgt := 1271) hC dL_law_587 rfl (by decide) hM (fun hM => ?_) (fun hM => ?_)
  · exact g_sub [0, 1, 2, 3] ((bL_law_1271 hC hml hR hf sl sc hX rec ih ) _ _ _ _ _ hv1 hv2 hM) rfl
  · refine g_iconst (v := 0) hC dL_law_590 rfl ic_0 ?_
    cases hM
    exact hR _ _ _ _ _ _ _ hf.1 hf.2 dL_law_591
def BL_law_592 (sl : Nat) (sc : Nat → Int32) (rec : Sto → Rho → Nat → Nat → Int32 → Option (Int32)) (σ : Sto) (ρ : Rho) (v1 : Nat) (v2 : Nat) (v3 : Int32) : Option (Int32) :=
  Option.bind (MX11_undo σ ρ v1) fun c1 =>
  Option.bind (MX12_undo c1.2 ρ v2) fun c2 =>
  if c1.1 = c2.1 then
    BL_law_1271 sl sc rec c2.2 ρ v1 v2 v3
  else
    some ((0 : Int32))
set_option maxHeartbeats 4000000 in
set_option maxRecDepth 100000 in
theorem bL_law_592 {X : CX} {cs ss n : Nat} {res : Int32} (hC : Cx X cL_law RL 12) (hml : (xc X).maxLocals = 4) (hR : RtL X res) (hf : cs ≤ (xR X).cells ∧ ss ≤ (xR X).slots) {sb : Nat} (sl : Nat) (sc : Nat → Int32) (hX : SX X sb sl sc) (rec : Sto → Rho → Nat → Nat → Int32 → Option (Int32)) (ih : ∀ (σ : Sto) (ρ : Rho) (v1 : Nat) (v2 : Nat) (v3 : Int32) (hv1 : Sh n v1 10) (hv2 : Sh n v2 11), rec σ ρ v1 v2 v3 = some res → G X cs ss n σ ρ 18 [(0, .ref sb), (1, vr X v1), (2, vr X v2), (3, .int v3)] []) : ∀ (σ : Sto) (ρ : Rho) (v1 : Nat) (v2 : Nat) (v3 : Int32) (hv1 : Sh n v1 10) (hv2 : Sh n v2 11), BL_law_592 sl sc rec σ ρ v1 v2 v3 = some res → G X cs ss n σ ρ 592 [(0, .ref sb), (1, vr X v1), (2, vr X v2), (3, .int v3)] [] := by
  intro σ ρ v1 v2 v3 hv1 hv2 hM
  unfold BL_law_592 at hM
  refine g_aload_n hC dL_law_592 rfl 1 rfl ?_
  refine g_callVi (As := []) (st' := []) (k := v1) (L' := 3) hC Y_X11_undo I_X11_undo k_801 ⟨by decide, by decide⟩ hv1 (ci := 10) (by decide) rfl dL_law_593 rfl rfl rfl (Nat.le_of_ble_eq_true rfl) hf hM (fun c hc => c_X11_undo (xE X) v1 hv1 c hc) (fun c1 hM => ?_)
  refine g_aload_n hC dL_law_596 rfl 2 rfl ?_
  refine g_callVi (As := []) (st' := [.int c1.1]) (k := v2) (L' := 1) hC Y_X12_undo I_X12_undo k_1283 ⟨by decide, by decide⟩ hv2 (ci := 11) (by decide) rfl dL_law_597 rfl rfl rfl (Nat.le_of_ble_eq_true rfl) hf hM (fun c hc => c_X12_undo (xE X) v2 hv2 c hc) (fun c2 hM => ?_)
  refine g_icmp_eq (tgt := 1271) hC dL_law_600 rfl (by decide) hM (fun hM => ?_) (fun hM => ?_)
  · exact g_sub [0, 1, 2, 3] ((bL_law_1271 hC hml hR hf sl sc hX rec ih ) _ _ _ _ _ hv1 hv2 hM) rfl
  · refine g_iconst (v := 0) hC dL_law_603 rfl ic_0 ?_
    cases hM
    exact hR _ _ _ _ _ _ _ hf.1 hf.2 dL_law_604
def BL_law_605 (sl : Nat) (sc : Nat → Int32) (rec : Sto → Rho → Nat → Nat → Int32 → Option (Int32)) (σ : Sto) (ρ : Rho) (v1 : Nat) (v2 : Nat) (v3 : Int32) : Option (Int32) :=
  Option.bind (sg sl sc ((v3 + (1 : Int32)))) fun x1 =>
  Option.bind (MX11_count σ ρ v1 x1) fun c2 =>
  Option.bind (sg sl sc ((v3 + (1 : Int32)))) fun x3 =>
  Option.bind (MX12_count c2.2.1 c2.2.2 v2 x3) fun c4 =>
  if c2.1 = c4.1 then
    BL_law_1271 sl sc rec c4.2 c2.2.2 v1 v2 v3
  else
    some ((0 : Int32))
set_option maxHeartbeats 4000000 in
set_option maxRecDepth 100000 in
theorem bL_law_605 {X : CX} {cs ss n : Nat} {res : Int32} (hC : Cx X cL_law RL 12) (hml : (xc X).maxLocals = 4) (hR : RtL X res) (hf : cs ≤ (xR X).cells ∧ ss ≤ (xR X).slots) {sb : Nat} (sl : Nat) (sc : Nat → Int32) (hX : SX X sb sl sc) (rec : Sto → Rho → Nat → Nat → Int32 → Option (Int32)) (ih : ∀ (σ : Sto) (ρ : Rho) (v1 : Nat) (v2 : Nat) (v3 : Int32) (hv1 : Sh n v1 10) (hv2 : Sh n v2 11), rec σ ρ v1 v2 v3 = some res → G X cs ss n σ ρ 18 [(0, .ref sb), (1, vr X v1), (2, vr X v2), (3, .int v3)] []) : ∀ (σ : Sto) (ρ : Rho) (v1 : Nat) (v2 : Nat) (v3 : Int32) (hv1 : Sh n v1 10) (hv2 : Sh n v2 11), BL_law_605 sl sc rec σ ρ v1 v2 v3 = some res → G X cs ss n σ ρ 605 [(0, .ref sb), (1, vr X v1), (2, vr X v2), (3, .int v3)] [] := by
  intro σ ρ v1 v2 v3 hv1 hv2 hM
  unfold BL_law_605 at hM
  refine g_aload_n hC dL_law_605 rfl 1 rfl ?_
  refine g_aload_n hC dL_law_606 rfl 0 rfl ?_
  refine g_iload_n hC dL_law_607 rfl 3 rfl ?_
  refine g_iconst (v := 1) hC dL_law_608 rfl ic_1 ?_
  refine g_iadd hC dL_law_609 rfl ?_
  refine g_sld hC hX dL_law_610 rfl hM (fun x1 hM => ?_)
  refine g_callVi (As := [.int x1]) (st' := []) (k := v1) (L' := 6) hC Y_X11_count I_X11_count k_809 ⟨by decide, by decide⟩ hv1 (ci := 10) (by decide) rfl dL_law_611 rfl rfl rfl (Nat.le_of_ble_eq_true rfl) hf hM (fun c hc => c_X11_count (xE X) v1 hv1 x1 c hc) (fun c2 hM => ?_)
  refine g_aload_n hC dL_law_614 rfl 2 rfl ?_
  refine g_aload_n hC dL_law_615 rfl 0 rfl ?_
  refine g_iload_n hC dL_law_616 rfl 3 rfl ?_
  refine g_iconst (v := 1) hC dL_law_617 rfl ic_1 ?_
  refine g_iadd hC dL_law_618 rfl ?_
  refine g_sld hC hX dL_law_619 rfl hM (fun x3 hM => ?_)
  refine g_callVi (As := [.int x3]) (st' := [.int c2.1]) (k := v2) (L' := 5) hC Y_X12_count I_X12_count k_1287 ⟨by decide, by decide⟩ hv2 (ci := 11) (by decide) rfl dL_law_620 rfl rfl rfl (Nat.le_of_ble_eq_true rfl) hf hM (fun c hc => c_X12_count (xE X) v2 hv2 x3 c hc) (fun c4 hM => ?_)
  refine g_icmp_eq (tgt := 1271) hC dL_law_623 rfl (by decide) hM (fun hM => ?_) (fun hM => ?_)
  · exact g_sub [0, 1, 2, 3] ((bL_law_1271 hC hml hR hf sl sc hX rec ih ) _ _ _ _ _ hv1 hv2 hM) rfl
  · refine g_iconst (v := 0) hC dL_law_626 rfl ic_0 ?_
    cases hM
    exact hR _ _ _ _ _ _ _ hf.1 hf.2 dL_law_627
def BL_law_628 (sl : Nat) (sc : Nat → Int32) (rec : Sto → Rho → Nat → Nat → Int32 → Option (Int32)) (σ : Sto) (ρ : Rho) (v1 : Nat) (v2 : Nat) (v3 : Int32) : Option (Int32) :=
  Option.bind (sg sl sc ((v3 + (1 : Int32)))) fun x1 =>
  Option.bind (sg sl sc ((v3 + (2 : Int32)))) fun x2 =>
  Option.bind (MX11_conic σ ρ v1 x1 x2) fun c3 =>
  Option.bind (sg sl sc ((v3 + (1 : Int32)))) fun x4 =>
  Option.bind (sg sl sc ((v3 + (2 : Int32)))) fun x5 =>
  Option.bind (MX12_conic c3.2 ρ v2 x4 x5) fun c6 =>
  if c3.1 = c6.1 then
    BL_law_1271 sl sc rec c6.2 ρ v1 v2 v3
  else
    some ((0 : Int32))
set_option maxHeartbeats 4000000 in
set_option maxRecDepth 100000 in
theorem bL_law_628 {X : CX} {cs ss n : Nat} {res : Int32} (hC : Cx X cL_law RL 12) (hml : (xc X).maxLocals = 4) (hR : RtL X res) (hf : cs ≤ (xR X).cells ∧ ss ≤ (xR X).slots) {sb : Nat} (sl : Nat) (sc : Nat → Int32) (hX : SX X sb sl sc) (rec : Sto → Rho → Nat → Nat → Int32 → Option (Int32)) (ih : ∀ (σ : Sto) (ρ : Rho) (v1 : Nat) (v2 : Nat) (v3 : Int32) (hv1 : Sh n v1 10) (hv2 : Sh n v2 11), rec σ ρ v1 v2 v3 = some res → G X cs ss n σ ρ 18 [(0, .ref sb), (1, vr X v1), (2, vr X v2), (3, .int v3)] []) : ∀ (σ : Sto) (ρ : Rho) (v1 : Nat) (v2 : Nat) (v3 : Int32) (hv1 : Sh n v1 10) (hv2 : Sh n v2 11), BL_law_628 sl sc rec σ ρ v1 v2 v3 = some res → G X cs ss n σ ρ 628 [(0, .ref sb), (1, vr X v1), (2, vr X v2), (3, .int v3)] [] := by
  intro σ ρ v1 v2 v3 hv1 hv2 hM
  unfold BL_law_628 at hM
  refine g_aload_n hC dL_law_628 rfl 1 rfl ?_
  refine g_aload_n hC dL_law_629 rfl 0 rfl ?_
  refine g_iload_n hC dL_law_630 rfl 3 rfl ?_
  refine g_iconst (v := 1) hC dL_law_631 rfl ic_1 ?_
  refine g_iadd hC dL_law_632 rfl ?_
  refine g_sld hC hX dL_law_633 rfl hM (fun x1 hM => ?_)
  refine g_aload_n hC dL_law_634 rfl 0 rfl ?_
  refine g_iload_n hC dL_law_635 rfl 3 rfl ?_
  refine g_iconst (v := 2) hC dL_law_636 rfl ic_2 ?_
  refine g_iadd hC dL_law_637 rfl ?_
  refine g_sld hC hX dL_law_638 rfl hM (fun x2 hM => ?_)
  refine g_callVi (As := [.int x1, .int x2]) (st' := []) (k := v1) (L' := 7) hC Y_X11_conic I_X11_conic k_836 ⟨by decide, by decide⟩ hv1 (ci := 10) (by decide) rfl dL_law_639 rfl rfl rfl (Nat.le_of_ble_eq_true rfl) hf hM (fun c hc => c_X11_conic (xE X) v1 hv1 x1 x2 c hc) (fun c3 hM => ?_)
  refine g_aload_n hC dL_law_642 rfl 2 rfl ?_
  refine g_aload_n hC dL_law_643 rfl 0 rfl ?_
  refine g_iload_n hC dL_law_644 rfl 3 rfl ?_
  refine g_iconst (v := 1) hC dL_law_645 rfl ic_1 ?_
  refine g_iadd hC dL_law_646 rfl ?_
  refine g_sld hC hX dL_law_647 rfl hM (fun x4 hM => ?_)
  refine g_aload_n hC dL_law_648 rfl 0 rfl ?_
  refine g_iload_n hC dL_law_649 rfl 3 rfl ?_
  refine g_iconst (v := 2) hC dL_law_650 rfl ic_2 ?_
  refine g_iadd hC dL_law_651 rfl ?_
  refine g_sld hC hX dL_law_652 rfl hM (fun x5 hM => ?_)
  refine g_callVi (As := [.int x4, .int x5]) (st' := [.int c3.1]) (k := v2) (L' := 6) hC Y_X12_conic I_X12_conic k_1311 ⟨by decide, by decide⟩ hv2 (ci := 11) (by decide) rfl dL_law_653 rfl rfl rfl (Nat.le_of_ble_eq_true rfl) hf hM (fun c hc => c_X12_conic (xE X) v2 hv2 x4 x5 c hc) (fun c6 hM => ?_)
  refine g_icmp_eq (tgt := 1271) hC dL_law_656 rfl (by decide) hM (fun hM => ?_) (fun hM => ?_)
  · exact g_sub [0, 1, 2, 3] ((bL_law_1271 hC hml hR hf sl sc hX rec ih ) _ _ _ _ _ hv1 hv2 hM) rfl
  · refine g_iconst (v := 0) hC dL_law_659 rfl ic_0 ?_
    cases hM
    exact hR _ _ _ _ _ _ _ hf.1 hf.2 dL_law_660
def BL_law_661 (sl : Nat) (sc : Nat → Int32) (rec : Sto → Rho → Nat → Nat → Int32 → Option (Int32)) (σ : Sto) (ρ : Rho) (v1 : Nat) (v2 : Nat) (v3 : Int32) : Option (Int32) :=
  Option.bind (sg sl sc ((v3 + (1 : Int32)))) fun x1 =>
  Option.bind (sg sl sc ((v3 + (2 : Int32)))) fun x2 =>
  Option.bind (MX11_place σ ρ v1 x1 x2) fun c3 =>
  Option.bind (sg sl sc ((v3 + (1 : Int32)))) fun x4 =>
  Option.bind (sg sl sc ((v3 + (2 : Int32)))) fun x5 =>
  Option.bind (MX12_place c3.2 ρ v2 x4 x5) fun c6 =>
  if c3.1 = c6.1 then
    BL_law_1271 sl sc rec c6.2 ρ v1 v2 v3
  else
    some ((0 : Int32))
set_option maxHeartbeats 4000000 in
set_option maxRecDepth 100000 in
theorem bL_law_661 {X : CX} {cs ss n : Nat} {res : Int32} (hC : Cx X cL_law RL 12) (hml : (xc X).maxLocals = 4) (hR : RtL X res) (hf : cs ≤ (xR X).cells ∧ ss ≤ (xR X).slots) {sb : Nat} (sl : Nat) (sc : Nat → Int32) (hX : SX X sb sl sc) (rec : Sto → Rho → Nat → Nat → Int32 → Option (Int32)) (ih : ∀ (σ : Sto) (ρ : Rho) (v1 : Nat) (v2 : Nat) (v3 : Int32) (hv1 : Sh n v1 10) (hv2 : Sh n v2 11), rec σ ρ v1 v2 v3 = some res → G X cs ss n σ ρ 18 [(0, .ref sb), (1, vr X v1), (2, vr X v2), (3, .int v3)] []) : ∀ (σ : Sto) (ρ : Rho) (v1 : Nat) (v2 : Nat) (v3 : Int32) (hv1 : Sh n v1 10) (hv2 : Sh n v2 11), BL_law_661 sl sc rec σ ρ v1 v2 v3 = some res → G X cs ss n σ ρ 661 [(0, .ref sb), (1, vr X v1), (2, vr X v2), (3, .int v3)] [] := by
  intro σ ρ v1 v2 v3 hv1 hv2 hM
  unfold BL_law_661 at hM
  refine g_aload_n hC dL_law_661 rfl 1 rfl ?_
  refine g_aload_n hC dL_law_662 rfl 0 rfl ?_
  refine g_iload_n hC dL_law_663 rfl 3 rfl ?_
  refine g_iconst (v := 1) hC dL_law_664 rfl ic_1 ?_
  refine g_iadd hC dL_law_665 rfl ?_
  refine g_sld hC hX dL_law_666 rfl hM (fun x1 hM => ?_)
  refine g_aload_n hC dL_law_667 rfl 0 rfl ?_
  refine g_iload_n hC dL_law_668 rfl 3 rfl ?_
  refine g_iconst (v := 2) hC dL_law_669 rfl ic_2 ?_
  refine g_iadd hC dL_law_670 rfl ?_
  refine g_sld hC hX dL_law_671 rfl hM (fun x2 hM => ?_)
  refine g_callVi (As := [.int x1, .int x2]) (st' := []) (k := v1) (L' := 2) hC Y_X11_place I_X11_place k_881 ⟨by decide, by decide⟩ hv1 (ci := 10) (by decide) rfl dL_law_672 rfl rfl rfl (Nat.le_of_ble_eq_true rfl) hf hM (fun c hc => c_X11_place (xE X) v1 hv1 x1 x2 c hc) (fun c3 hM => ?_)
  refine g_aload_n hC dL_law_675 rfl 2 rfl ?_
  refine g_aload_n hC dL_law_676 rfl 0 rfl ?_
  refine g_iload_n hC dL_law_677 rfl 3 rfl ?_
  refine g_iconst (v := 1) hC dL_law_678 rfl ic_1 ?_
  refine g_iadd hC dL_law_679 rfl ?_
  refine g_sld hC hX dL_law_680 rfl hM (fun x4 hM => ?_)
  refine g_aload_n hC dL_law_681 rfl 0 rfl ?_
  refine g_iload_n hC dL_law_682 rfl 3 rfl ?_
  refine g_iconst (v := 2) hC dL_law_683 rfl ic_2 ?_
  refine g_iadd hC dL_law_684 rfl ?_
  refine g_sld hC hX dL_law_685 rfl hM (fun x5 hM => ?_)
  refine g_callVi (As := [.int x4, .int x5]) (st' := [.int c3.1]) (k := v2) (L' := 2) hC Y_X12_place I_X12_place k_1347 ⟨by decide, by decide⟩ hv2 (ci := 11) (by decide) rfl dL_law_686 rfl rfl rfl (Nat.le_of_ble_eq_true rfl) hf hM (fun c hc => c_X12_place (xE X) v2 hv2 x4 x5 c hc) (fun c6 hM => ?_)
  refine g_icmp_eq (tgt := 1271) hC dL_law_689 rfl (by decide) hM (fun hM => ?_) (fun hM => ?_)
  · exact g_sub [0, 1, 2, 3] ((bL_law_1271 hC hml hR hf sl sc hX rec ih ) _ _ _ _ _ hv1 hv2 hM) rfl
  · refine g_iconst (v := 0) hC dL_law_692 rfl ic_0 ?_
    cases hM
    exact hR _ _ _ _ _ _ _ hf.1 hf.2 dL_law_693
def BL_law_694 (sl : Nat) (sc : Nat → Int32) (rec : Sto → Rho → Nat → Nat → Int32 → Option (Int32)) (σ : Sto) (ρ : Rho) (v1 : Nat) (v2 : Nat) (v3 : Int32) : Option (Int32) :=
  Option.bind (sg sl sc ((v3 + (1 : Int32)))) fun x1 =>
  Option.bind (sg sl sc ((v3 + (2 : Int32)))) fun x2 =>
  Option.bind (sg sl sc ((v3 + (3 : Int32)))) fun x3 =>
  Option.bind (MX11_number σ ρ v1 x1 x2 x3) fun c4 =>
  Option.bind (sg sl sc ((v3 + (1 : Int32)))) fun x5 =>
  Option.bind (sg sl sc ((v3 + (2 : Int32)))) fun x6 =>
  Option.bind (sg sl sc ((v3 + (3 : Int32)))) fun x7 =>
  Option.bind (MX12_number c4.2 ρ v2 x5 x6 x7) fun c8 =>
  if c4.1 = c8.1 then
    BL_law_1271 sl sc rec c8.2 ρ v1 v2 v3
  else
    some ((0 : Int32))
set_option maxHeartbeats 4000000 in
set_option maxRecDepth 100000 in
theorem bL_law_694 {X : CX} {cs ss n : Nat} {res : Int32} (hC : Cx X cL_law RL 12) (hml : (xc X).maxLocals = 4) (hR : RtL X res) (hf : cs ≤ (xR X).cells ∧ ss ≤ (xR X).slots) {sb : Nat} (sl : Nat) (sc : Nat → Int32) (hX : SX X sb sl sc) (rec : Sto → Rho → Nat → Nat → Int32 → Option (Int32)) (ih : ∀ (σ : Sto) (ρ : Rho) (v1 : Nat) (v2 : Nat) (v3 : Int32) (hv1 : Sh n v1 10) (hv2 : Sh n v2 11), rec σ ρ v1 v2 v3 = some res → G X cs ss n σ ρ 18 [(0, .ref sb), (1, vr X v1), (2, vr X v2), (3, .int v3)] []) : ∀ (σ : Sto) (ρ : Rho) (v1 : Nat) (v2 : Nat) (v3 : Int32) (hv1 : Sh n v1 10) (hv2 : Sh n v2 11), BL_law_694 sl sc rec σ ρ v1 v2 v3 = some res → G X cs ss n σ ρ 694 [(0, .ref sb), (1, vr X v1), (2, vr X v2), (3, .int v3)] [] := by
  intro σ ρ v1 v2 v3 hv1 hv2 hM
  unfold BL_law_694 at hM
  refine g_aload_n hC dL_law_694 rfl 1 rfl ?_
  refine g_aload_n hC dL_law_695 rfl 0 rfl ?_
  refine g_iload_n hC dL_law_696 rfl 3 rfl ?_
  refine g_iconst (v := 1) hC dL_law_697 rfl ic_1 ?_
  refine g_iadd hC dL_law_698 rfl ?_
  refine g_sld hC hX dL_law_699 rfl hM (fun x1 hM => ?_)
  refine g_aload_n hC dL_law_700 rfl 0 rfl ?_
  refine g_iload_n hC dL_law_701 rfl 3 rfl ?_
  refine g_iconst (v := 2) hC dL_law_702 rfl ic_2 ?_
  refine g_iadd hC dL_law_703 rfl ?_
  refine g_sld hC hX dL_law_704 rfl hM (fun x2 hM => ?_)
  refine g_aload_n hC dL_law_705 rfl 0 rfl ?_
  refine g_iload_n hC dL_law_706 rfl 3 rfl ?_
  refine g_iconst (v := 3) hC dL_law_707 rfl ic_3 ?_
  refine g_iadd hC dL_law_708 rfl ?_
  refine g_sld hC hX dL_law_709 rfl hM (fun x3 hM => ?_)
  refine g_callVi (As := [.int x1, .int x2, .int x3]) (st' := []) (k := v1) (L' := 4) hC Y_X11_number I_X11_number k_889 ⟨by decide, by decide⟩ hv1 (ci := 10) (by decide) rfl dL_law_710 rfl rfl rfl (Nat.le_of_ble_eq_true rfl) hf hM (fun c hc => c_X11_number (xE X) v1 hv1 x1 x2 x3 c hc) (fun c4 hM => ?_)
  refine g_aload_n hC dL_law_713 rfl 2 rfl ?_
  refine g_aload_n hC dL_law_714 rfl 0 rfl ?_
  refine g_iload_n hC dL_law_715 rfl 3 rfl ?_
  refine g_iconst (v := 1) hC dL_law_716 rfl ic_1 ?_
  refine g_iadd hC dL_law_717 rfl ?_
  refine g_sld hC hX dL_law_718 rfl hM (fun x5 hM => ?_)
  refine g_aload_n hC dL_law_719 rfl 0 rfl ?_
  refine g_iload_n hC dL_law_720 rfl 3 rfl ?_
  refine g_iconst (v := 2) hC dL_law_721 rfl ic_2 ?_
  refine g_iadd hC dL_law_722 rfl ?_
  refine g_sld hC hX dL_law_723 rfl hM (fun x6 hM => ?_)
  refine g_aload_n hC dL_law_724 rfl 0 rfl ?_
  refine g_iload_n hC dL_law_725 rfl 3 rfl ?_
  refine g_iconst (v := 3) hC dL_law_726 rfl ic_3 ?_
  refine g_iadd hC dL_law_727 rfl ?_
  refine g_sld hC hX dL_law_728 rfl hM (fun x7 hM => ?_)
  refine g_callVi (As := [.int x5, .int x6, .int x7]) (st' := [.int c4.1]) (k := v2) (L' := 2) hC Y_X12_number I_X12_number k_1351 ⟨by decide, by decide⟩ hv2 (ci := 11) (by decide) rfl dL_law_729 rfl rfl rfl (Nat.le_of_ble_eq_true rfl) hf hM (fun c hc => c_X12_number (xE X) v2 hv2 x5 x6 x7 c hc) (fun c8 hM => ?_)
  refine g_icmp_eq (tgt := 1271) hC dL_law_732 rfl (by decide) hM (fun hM => ?_) (fun hM => ?_)
  · exact g_sub [0, 1, 2, 3] ((bL_law_1271 hC hml hR hf sl sc hX rec ih ) _ _ _ _ _ hv1 hv2 hM) rfl
  · refine g_iconst (v := 0) hC dL_law_735 rfl ic_0 ?_
    cases hM
    exact hR _ _ _ _ _ _ _ hf.1 hf.2 dL_law_736
def BL_law_737 (sl : Nat) (sc : Nat → Int32) (rec : Sto → Rho → Nat → Nat → Int32 → Option (Int32)) (σ : Sto) (ρ : Rho) (v1 : Nat) (v2 : Nat) (v3 : Int32) : Option (Int32) :=
  Option.bind (sg sl sc ((v3 + (1 : Int32)))) fun x1 =>
  Option.bind (sg sl sc ((v3 + (2 : Int32)))) fun x2 =>
  Option.bind (MX11_joined σ ρ v1 x1 x2) fun c3 =>
  Option.bind (sg sl sc ((v3 + (1 : Int32)))) fun x4 =>
  Option.bind (sg sl sc ((v3 + (2 : Int32)))) fun x5 =>
  Option.bind (MX12_joined c3.2 ρ v2 x4 x5) fun c6 =>
  if c3.1 = c6.1 then
    BL_law_1271 sl sc rec c6.2 ρ v1 v2 v3
  else
    some ((0 : Int32))
set_option maxHeartbeats 4000000 in
set_option maxRecDepth 100000 in
theorem bL_law_737 {X : CX} {cs ss n : Nat} {res : Int32} (hC : Cx X cL_law RL 12) (hml : (xc X).maxLocals = 4) (hR : RtL X res) (hf : cs ≤ (xR X).cells ∧ ss ≤ (xR X).slots) {sb : Nat} (sl : Nat) (sc : Nat → Int32) (hX : SX X sb sl sc) (rec : Sto → Rho → Nat → Nat → Int32 → Option (Int32)) (ih : ∀ (σ : Sto) (ρ : Rho) (v1 : Nat) (v2 : Nat) (v3 : Int32) (hv1 : Sh n v1 10) (hv2 : Sh n v2 11), rec σ ρ v1 v2 v3 = some res → G X cs ss n σ ρ 18 [(0, .ref sb), (1, vr X v1), (2, vr X v2), (3, .int v3)] []) : ∀ (σ : Sto) (ρ : Rho) (v1 : Nat) (v2 : Nat) (v3 : Int32) (hv1 : Sh n v1 10) (hv2 : Sh n v2 11), BL_law_737 sl sc rec σ ρ v1 v2 v3 = some res → G X cs ss n σ ρ 737 [(0, .ref sb), (1, vr X v1), (2, vr X v2), (3, .int v3)] [] := by
  intro σ ρ v1 v2 v3 hv1 hv2 hM
  unfold BL_law_737 at hM
  refine g_aload_n hC dL_law_737 rfl 1 rfl ?_
  refine g_aload_n hC dL_law_738 rfl 0 rfl ?_
  refine g_iload_n hC dL_law_739 rfl 3 rfl ?_
  refine g_iconst (v := 1) hC dL_law_740 rfl ic_1 ?_
  refine g_iadd hC dL_law_741 rfl ?_
  refine g_sld hC hX dL_law_742 rfl hM (fun x1 hM => ?_)
  refine g_aload_n hC dL_law_743 rfl 0 rfl ?_
  refine g_iload_n hC dL_law_744 rfl 3 rfl ?_
  refine g_iconst (v := 2) hC dL_law_745 rfl ic_2 ?_
  refine g_iadd hC dL_law_746 rfl ?_
  refine g_sld hC hX dL_law_747 rfl hM (fun x2 hM => ?_)
  refine g_callVi (As := [.int x1, .int x2]) (st' := []) (k := v1) (L' := 4) hC Y_X11_joined I_X11_joined k_899 ⟨by decide, by decide⟩ hv1 (ci := 10) (by decide) rfl dL_law_748 rfl rfl rfl (Nat.le_of_ble_eq_true rfl) hf hM (fun c hc => c_X11_joined (xE X) v1 hv1 x1 x2 c hc) (fun c3 hM => ?_)
  refine g_aload_n hC dL_law_751 rfl 2 rfl ?_
  refine g_aload_n hC dL_law_752 rfl 0 rfl ?_
  refine g_iload_n hC dL_law_753 rfl 3 rfl ?_
  refine g_iconst (v := 1) hC dL_law_754 rfl ic_1 ?_
  refine g_iadd hC dL_law_755 rfl ?_
  refine g_sld hC hX dL_law_756 rfl hM (fun x4 hM => ?_)
  refine g_aload_n hC dL_law_757 rfl 0 rfl ?_
  refine g_iload_n hC dL_law_758 rfl 3 rfl ?_
  refine g_iconst (v := 2) hC dL_law_759 rfl ic_2 ?_
  refine g_iadd hC dL_law_760 rfl ?_
  refine g_sld hC hX dL_law_761 rfl hM (fun x5 hM => ?_)
  refine g_callVi (As := [.int x4, .int x5]) (st' := [.int c3.1]) (k := v2) (L' := 3) hC Y_X12_joined I_X12_joined k_1355 ⟨by decide, by decide⟩ hv2 (ci := 11) (by decide) rfl dL_law_762 rfl rfl rfl (Nat.le_of_ble_eq_true rfl) hf hM (fun c hc => c_X12_joined (xE X) v2 hv2 x4 x5 c hc) (fun c6 hM => ?_)
  refine g_icmp_eq (tgt := 1271) hC dL_law_765 rfl (by decide) hM (fun hM => ?_) (fun hM => ?_)
  · exact g_sub [0, 1, 2, 3] ((bL_law_1271 hC hml hR hf sl sc hX rec ih ) _ _ _ _ _ hv1 hv2 hM) rfl
  · refine g_iconst (v := 0) hC dL_law_768 rfl ic_0 ?_
    cases hM
    exact hR _ _ _ _ _ _ _ hf.1 hf.2 dL_law_769
def BL_law_770 (sl : Nat) (sc : Nat → Int32) (rec : Sto → Rho → Nat → Nat → Int32 → Option (Int32)) (σ : Sto) (ρ : Rho) (v1 : Nat) (v2 : Nat) (v3 : Int32) : Option (Int32) :=
  Option.bind (sg sl sc ((v3 + (1 : Int32)))) fun x1 =>
  Option.bind (MX11_marked σ ρ v1 x1) fun c2 =>
  Option.bind (sg sl sc ((v3 + (1 : Int32)))) fun x3 =>
  Option.bind (MX12_marked σ ρ v2 x3) fun c4 =>
  if c2 = c4 then
    BL_law_1271 sl sc rec σ ρ v1 v2 v3
  else
    some ((0 : Int32))
set_option maxHeartbeats 4000000 in
set_option maxRecDepth 100000 in
theorem bL_law_770 {X : CX} {cs ss n : Nat} {res : Int32} (hC : Cx X cL_law RL 12) (hml : (xc X).maxLocals = 4) (hR : RtL X res) (hf : cs ≤ (xR X).cells ∧ ss ≤ (xR X).slots) {sb : Nat} (sl : Nat) (sc : Nat → Int32) (hX : SX X sb sl sc) (rec : Sto → Rho → Nat → Nat → Int32 → Option (Int32)) (ih : ∀ (σ : Sto) (ρ : Rho) (v1 : Nat) (v2 : Nat) (v3 : Int32) (hv1 : Sh n v1 10) (hv2 : Sh n v2 11), rec σ ρ v1 v2 v3 = some res → G X cs ss n σ ρ 18 [(0, .ref sb), (1, vr X v1), (2, vr X v2), (3, .int v3)] []) : ∀ (σ : Sto) (ρ : Rho) (v1 : Nat) (v2 : Nat) (v3 : Int32) (hv1 : Sh n v1 10) (hv2 : Sh n v2 11), BL_law_770 sl sc rec σ ρ v1 v2 v3 = some res → G X cs ss n σ ρ 770 [(0, .ref sb), (1, vr X v1), (2, vr X v2), (3, .int v3)] [] := by
  intro σ ρ v1 v2 v3 hv1 hv2 hM
  unfold BL_law_770 at hM
  refine g_aload_n hC dL_law_770 rfl 1 rfl ?_
  refine g_aload_n hC dL_law_771 rfl 0 rfl ?_
  refine g_iload_n hC dL_law_772 rfl 3 rfl ?_
  refine g_iconst (v := 1) hC dL_law_773 rfl ic_1 ?_
  refine g_iadd hC dL_law_774 rfl ?_
  refine g_sld hC hX dL_law_775 rfl hM (fun x1 hM => ?_)
  refine g_callVi (As := [.int x1]) (st' := []) (k := v1) (L' := 1) hC Y_X11_marked I_X11_marked k_903 ⟨by decide, by decide⟩ hv1 (ci := 10) (by decide) rfl dL_law_776 rfl rfl rfl (Nat.le_of_ble_eq_true rfl) hf hM (fun c hc => c_X11_marked (xE X) v1 hv1 x1 c hc) (fun c2 hM => ?_)
  refine g_aload_n hC dL_law_779 rfl 2 rfl ?_
  refine g_aload_n hC dL_law_780 rfl 0 rfl ?_
  refine g_iload_n hC dL_law_781 rfl 3 rfl ?_
  refine g_iconst (v := 1) hC dL_law_782 rfl ic_1 ?_
  refine g_iadd hC dL_law_783 rfl ?_
  refine g_sld hC hX dL_law_784 rfl hM (fun x3 hM => ?_)
  refine g_callVi (As := [.int x3]) (st' := [.int c2]) (k := v2) (L' := 1) hC Y_X12_marked I_X12_marked k_1359 ⟨by decide, by decide⟩ hv2 (ci := 11) (by decide) rfl dL_law_785 rfl rfl rfl (Nat.le_of_ble_eq_true rfl) hf hM (fun c hc => c_X12_marked (xE X) v2 hv2 x3 c hc) (fun c4 hM => ?_)
  refine g_icmp_eq (tgt := 1271) hC dL_law_788 rfl (by decide) hM (fun hM => ?_) (fun hM => ?_)
  · exact g_sub [0, 1, 2, 3] ((bL_law_1271 hC hml hR hf sl sc hX rec ih ) _ _ _ _ _ hv1 hv2 hM) rfl
  · refine g_iconst (v := 0) hC dL_law_791 rfl ic_0 ?_
    cases hM
    exact hR _ _ _ _ _ _ _ hf.1 hf.2 dL_law_792
def BL_law_793 (sl : Nat) (sc : Nat → Int32) (rec : Sto → Rho → Nat → Nat → Int32 → Option (Int32)) (σ : Sto) (ρ : Rho) (v1 : Nat) (v2 : Nat) (v3 : Int32) : Option (Int32) :=
  Option.bind (sg sl sc ((v3 + (1 : Int32)))) fun x1 =>
  Option.bind (sg sl sc ((v3 + (2 : Int32)))) fun x2 =>
  Option.bind (MX11_lies σ ρ v1 x1 x2) fun c3 =>
  Option.bind (sg sl sc ((v3 + (1 : Int32)))) fun x4 =>
  Option.bind (sg sl sc ((v3 + (2 : Int32)))) fun x5 =>
  Option.bind (MX12_lies c3.2 ρ v2 x4 x5) fun c6 =>
  if c3.1 = c6.1 then
    BL_law_1271 sl sc rec c6.2 ρ v1 v2 v3
  else
    some ((0 : Int32))
set_option maxHeartbeats 4000000 in
set_option maxRecDepth 100000 in
theorem bL_law_793 {X : CX} {cs ss n : Nat} {res : Int32} (hC : Cx X cL_law RL 12) (hml : (xc X).maxLocals = 4) (hR : RtL X res) (hf : cs ≤ (xR X).cells ∧ ss ≤ (xR X).slots) {sb : Nat} (sl : Nat) (sc : Nat → Int32) (hX : SX X sb sl sc) (rec : Sto → Rho → Nat → Nat → Int32 → Option (Int32)) (ih : ∀ (σ : Sto) (ρ : Rho) (v1 : Nat) (v2 : Nat) (v3 : Int32) (hv1 : Sh n v1 10) (hv2 : Sh n v2 11), rec σ ρ v1 v2 v3 = some res → G X cs ss n σ ρ 18 [(0, .ref sb), (1, vr X v1), (2, vr X v2), (3, .int v3)] []) : ∀ (σ : Sto) (ρ : Rho) (v1 : Nat) (v2 : Nat) (v3 : Int32) (hv1 : Sh n v1 10) (hv2 : Sh n v2 11), BL_law_793 sl sc rec σ ρ v1 v2 v3 = some res → G X cs ss n σ ρ 793 [(0, .ref sb), (1, vr X v1), (2, vr X v2), (3, .int v3)] [] := by
  intro σ ρ v1 v2 v3 hv1 hv2 hM
  unfold BL_law_793 at hM
  refine g_aload_n hC dL_law_793 rfl 1 rfl ?_
  refine g_aload_n hC dL_law_794 rfl 0 rfl ?_
  refine g_iload_n hC dL_law_795 rfl 3 rfl ?_
  refine g_iconst (v := 1) hC dL_law_796 rfl ic_1 ?_
  refine g_iadd hC dL_law_797 rfl ?_
  refine g_sld hC hX dL_law_798 rfl hM (fun x1 hM => ?_)
  refine g_aload_n hC dL_law_799 rfl 0 rfl ?_
  refine g_iload_n hC dL_law_800 rfl 3 rfl ?_
  refine g_iconst (v := 2) hC dL_law_801 rfl ic_2 ?_
  refine g_iadd hC dL_law_802 rfl ?_
  refine g_sld hC hX dL_law_803 rfl hM (fun x2 hM => ?_)
  refine g_callVi (As := [.int x1, .int x2]) (st' := []) (k := v1) (L' := 6) hC Y_X11_lies I_X11_lies k_907 ⟨by decide, by decide⟩ hv1 (ci := 10) (by decide) rfl dL_law_804 rfl rfl rfl (Nat.le_of_ble_eq_true rfl) hf hM (fun c hc => c_X11_lies (xE X) v1 hv1 x1 x2 c hc) (fun c3 hM => ?_)
  refine g_aload_n hC dL_law_807 rfl 2 rfl ?_
  refine g_aload_n hC dL_law_808 rfl 0 rfl ?_
  refine g_iload_n hC dL_law_809 rfl 3 rfl ?_
  refine g_iconst (v := 1) hC dL_law_810 rfl ic_1 ?_
  refine g_iadd hC dL_law_811 rfl ?_
  refine g_sld hC hX dL_law_812 rfl hM (fun x4 hM => ?_)
  refine g_aload_n hC dL_law_813 rfl 0 rfl ?_
  refine g_iload_n hC dL_law_814 rfl 3 rfl ?_
  refine g_iconst (v := 2) hC dL_law_815 rfl ic_2 ?_
  refine g_iadd hC dL_law_816 rfl ?_
  refine g_sld hC hX dL_law_817 rfl hM (fun x5 hM => ?_)
  refine g_callVi (As := [.int x4, .int x5]) (st' := [.int c3.1]) (k := v2) (L' := 5) hC Y_X12_lies I_X12_lies k_1363 ⟨by decide, by decide⟩ hv2 (ci := 11) (by decide) rfl dL_law_818 rfl rfl rfl (Nat.le_of_ble_eq_true rfl) hf hM (fun c hc => c_X12_lies (xE X) v2 hv2 x4 x5 c hc) (fun c6 hM => ?_)
  refine g_icmp_eq (tgt := 1271) hC dL_law_821 rfl (by decide) hM (fun hM => ?_) (fun hM => ?_)
  · exact g_sub [0, 1, 2, 3] ((bL_law_1271 hC hml hR hf sl sc hX rec ih ) _ _ _ _ _ hv1 hv2 hM) rfl
  · refine g_iconst (v := 0) hC dL_law_824 rfl ic_0 ?_
    cases hM
    exact hR _ _ _ _ _ _ _ hf.1 hf.2 dL_law_825
def BL_law_877 (sl : Nat) (sc : Nat → Int32) (rec : Sto → Rho → Nat → Nat → Int32 → Option (Int32)) (σ : Sto) (ρ : Rho) (v1 : Nat) (v2 : Nat) (v3 : Int32) (t0 : Int32) (t1 : Nat) (t2 : Int32) (t3 : Int32) (t4 : Int32) : Option (Int32) :=
  Option.bind (MX12_on σ ρ t1 t2 t3 t4) fun c1 =>
  if t0 = c1.1 then
    BL_law_1271 sl sc rec c1.2 ρ v1 v2 v3
  else
    some ((0 : Int32))
set_option maxHeartbeats 4000000 in
set_option maxRecDepth 100000 in
theorem bL_law_877 {X : CX} {cs ss n : Nat} {res : Int32} (hC : Cx X cL_law RL 12) (hml : (xc X).maxLocals = 4) (hR : RtL X res) (hf : cs ≤ (xR X).cells ∧ ss ≤ (xR X).slots) {sb : Nat} (sl : Nat) (sc : Nat → Int32) (hX : SX X sb sl sc) (rec : Sto → Rho → Nat → Nat → Int32 → Option (Int32)) (ih : ∀ (σ : Sto) (ρ : Rho) (v1 : Nat) (v2 : Nat) (v3 : Int32) (hv1 : Sh n v1 10) (hv2 : Sh n v2 11), rec σ ρ v1 v2 v3 = some res → G X cs ss n σ ρ 18 [(0, .ref sb), (1, vr X v1), (2, vr X v2), (3, .int v3)] []) : ∀ (σ : Sto) (ρ : Rho) (v1 : Nat) (v2 : Nat) (v3 : Int32) (t0 : Int32) (t1 : Nat) (t2 : Int32) (t3 : Int32) (t4 : Int32) (hv1 : Sh n v1 10) (hv2 : Sh n v2 11) (ht1 : Sh n t1 11), BL_law_877 sl sc rec σ ρ v1 v2 v3 t0 t1 t2 t3 t4 = some res → G X cs ss n σ ρ 877 [(0, .ref sb), (1, vr X v1), (2, vr X v2), (3, .int v3)] [.int t4, .int t3, .int t2, vr X t1, .int t0] := by
  intro σ ρ v1 v2 v3 t0 t1 t2 t3 t4 hv1 hv2 ht1 hM
  unfold BL_law_877 at hM
  refine g_callVi (As := [.int t2, .int t3, .int t4]) (st' := [.int t0]) (k := t1) (L' := 3) hC Y_X12_on I_X12_on k_1367 ⟨by decide, by decide⟩ ht1 (ci := 11) (by decide) rfl dL_law_877 rfl rfl rfl (Nat.le_of_ble_eq_true rfl) hf hM (fun c hc => c_X12_on (xE X) t1 ht1 t2 t3 t4 c hc) (fun c1 hM => ?_)
  refine g_icmp_eq (tgt := 1271) hC dL_law_880 rfl (by decide) hM (fun hM => ?_) (fun hM => ?_)
  · exact g_sub [0, 1, 2, 3] ((bL_law_1271 hC hml hR hf sl sc hX rec ih ) _ _ _ _ _ hv1 hv2 hM) rfl
  · refine g_iconst (v := 0) hC dL_law_883 rfl ic_0 ?_
    cases hM
    exact hR _ _ _ _ _ _ _ hf.1 hf.2 dL_law_884
def BL_law_850 (sl : Nat) (sc : Nat → Int32) (rec : Sto → Rho → Nat → Nat → Int32 → Option (Int32)) (σ : Sto) (ρ : Rho) (v1 : Nat) (v2 : Nat) (v3 : Int32) (t0 : Nat) (t1 : Int32) (t2 : Int32) (t3 : Int32) : Option (Int32) :=
  Option.bind (MX11_on σ ρ t0 t1 t2 t3) fun c1 =>
  Option.bind (sg sl sc ((v3 + (1 : Int32)))) fun x2 =>
  Option.bind (sg sl sc ((v3 + (2 : Int32)))) fun x3 =>
  Option.bind (sg sl sc ((v3 + (3 : Int32)))) fun x4 =>
  if x4 = 0 then
    BL_law_877 sl sc rec c1.2 ρ v1 v2 v3 c1.1 v2 x2 x3 ((0 : Int32))
  else
    BL_law_877 sl sc rec c1.2 ρ v1 v2 v3 c1.1 v2 x2 x3 ((1 : Int32))
set_option maxHeartbeats 4000000 in
set_option maxRecDepth 100000 in
theorem bL_law_850 {X : CX} {cs ss n : Nat} {res : Int32} (hC : Cx X cL_law RL 12) (hml : (xc X).maxLocals = 4) (hR : RtL X res) (hf : cs ≤ (xR X).cells ∧ ss ≤ (xR X).slots) {sb : Nat} (sl : Nat) (sc : Nat → Int32) (hX : SX X sb sl sc) (rec : Sto → Rho → Nat → Nat → Int32 → Option (Int32)) (ih : ∀ (σ : Sto) (ρ : Rho) (v1 : Nat) (v2 : Nat) (v3 : Int32) (hv1 : Sh n v1 10) (hv2 : Sh n v2 11), rec σ ρ v1 v2 v3 = some res → G X cs ss n σ ρ 18 [(0, .ref sb), (1, vr X v1), (2, vr X v2), (3, .int v3)] []) : ∀ (σ : Sto) (ρ : Rho) (v1 : Nat) (v2 : Nat) (v3 : Int32) (t0 : Nat) (t1 : Int32) (t2 : Int32) (t3 : Int32) (hv1 : Sh n v1 10) (hv2 : Sh n v2 11) (ht0 : Sh n t0 10), BL_law_850 sl sc rec σ ρ v1 v2 v3 t0 t1 t2 t3 = some res → G X cs ss n σ ρ 850 [(0, .ref sb), (1, vr X v1), (2, vr X v2), (3, .int v3)] [.int t3, .int t2, .int t1, vr X t0] := by
  intro σ ρ v1 v2 v3 t0 t1 t2 t3 hv1 hv2 ht0 hM
  unfold BL_law_850 at hM
  refine g_callVi (As := [.int t1, .int t2, .int t3]) (st' := []) (k := t0) (L' := 7) hC Y_X11_on I_X11_on k_933 ⟨by decide, by decide⟩ ht0 (ci := 10) (by decide) rfl dL_law_850 rfl rfl rfl (Nat.le_of_ble_eq_true rfl) hf hM (fun c hc => c_X11_on (xE X) t0 ht0 t1 t2 t3 c hc) (fun c1 hM => ?_)
  refine g_aload_n hC dL_law_853 rfl 2 rfl ?_
  refine g_aload_n hC dL_law_854 rfl 0 rfl ?_
  refine g_iload_n hC dL_law_855 rfl 3 rfl ?_
  refine g_iconst (v := 1) hC dL_law_856 rfl ic_1 ?_
  refine g_iadd hC dL_law_857 rfl ?_
  refine g_sld hC hX dL_law_858 rfl hM (fun x2 hM => ?_)
  refine g_aload_n hC dL_law_859 rfl 0 rfl ?_
  refine g_iload_n hC dL_law_860 rfl 3 rfl ?_
  refine g_iconst (v := 2) hC dL_law_861 rfl ic_2 ?_
  refine g_iadd hC dL_law_862 rfl ?_
  refine g_sld hC hX dL_law_863 rfl hM (fun x3 hM => ?_)
  refine g_aload_n hC dL_law_864 rfl 0 rfl ?_
  refine g_iload_n hC dL_law_865 rfl 3 rfl ?_
  refine g_iconst (v := 3) hC dL_law_866 rfl ic_3 ?_
  refine g_iadd hC dL_law_867 rfl ?_
  refine g_sld hC hX dL_law_868 rfl hM (fun x4 hM => ?_)
  refine g_if_eq (tgt := 876) hC dL_law_869 rfl (by decide) hM (fun hM => ?_) (fun hM => ?_)
  · refine g_iconst (v := 0) hC dL_law_876 rfl ic_0 ?_
    exact g_sub [0, 1, 2, 3] ((bL_law_877 hC hml hR hf sl sc hX rec ih ) _ _ _ _ _ _ _ _ _ _ hv1 hv2 hv2 hM) rfl
  · refine g_iconst (v := 1) hC dL_law_872 rfl ic_1 ?_
    refine g_goto (tgt := 877) hC dL_law_873 rfl (by decide) ?_
    exact g_sub [0, 1, 2, 3] ((bL_law_877 hC hml hR hf sl sc hX rec ih ) _ _ _ _ _ _ _ _ _ _ hv1 hv2 hv2 hM) rfl
def BL_law_826 (sl : Nat) (sc : Nat → Int32) (rec : Sto → Rho → Nat → Nat → Int32 → Option (Int32)) (σ : Sto) (ρ : Rho) (v1 : Nat) (v2 : Nat) (v3 : Int32) : Option (Int32) :=
  Option.bind (sg sl sc ((v3 + (1 : Int32)))) fun x1 =>
  Option.bind (sg sl sc ((v3 + (2 : Int32)))) fun x2 =>
  Option.bind (sg sl sc ((v3 + (3 : Int32)))) fun x3 =>
  if x3 = 0 then
    BL_law_850 sl sc rec σ ρ v1 v2 v3 v1 x1 x2 ((0 : Int32))
  else
    BL_law_850 sl sc rec σ ρ v1 v2 v3 v1 x1 x2 ((1 : Int32))
set_option maxHeartbeats 4000000 in
set_option maxRecDepth 100000 in
theorem bL_law_826 {X : CX} {cs ss n : Nat} {res : Int32} (hC : Cx X cL_law RL 12) (hml : (xc X).maxLocals = 4) (hR : RtL X res) (hf : cs ≤ (xR X).cells ∧ ss ≤ (xR X).slots) {sb : Nat} (sl : Nat) (sc : Nat → Int32) (hX : SX X sb sl sc) (rec : Sto → Rho → Nat → Nat → Int32 → Option (Int32)) (ih : ∀ (σ : Sto) (ρ : Rho) (v1 : Nat) (v2 : Nat) (v3 : Int32) (hv1 : Sh n v1 10) (hv2 : Sh n v2 11), rec σ ρ v1 v2 v3 = some res → G X cs ss n σ ρ 18 [(0, .ref sb), (1, vr X v1), (2, vr X v2), (3, .int v3)] []) : ∀ (σ : Sto) (ρ : Rho) (v1 : Nat) (v2 : Nat) (v3 : Int32) (hv1 : Sh n v1 10) (hv2 : Sh n v2 11), BL_law_826 sl sc rec σ ρ v1 v2 v3 = some res → G X cs ss n σ ρ 826 [(0, .ref sb), (1, vr X v1), (2, vr X v2), (3, .int v3)] [] := by
  intro σ ρ v1 v2 v3 hv1 hv2 hM
  unfold BL_law_826 at hM
  refine g_aload_n hC dL_law_826 rfl 1 rfl ?_
  refine g_aload_n hC dL_law_827 rfl 0 rfl ?_
  refine g_iload_n hC dL_law_828 rfl 3 rfl ?_
  refine g_iconst (v := 1) hC dL_law_829 rfl ic_1 ?_
  refine g_iadd hC dL_law_830 rfl ?_
  refine g_sld hC hX dL_law_831 rfl hM (fun x1 hM => ?_)
  refine g_aload_n hC dL_law_832 rfl 0 rfl ?_
  refine g_iload_n hC dL_law_833 rfl 3 rfl ?_
  refine g_iconst (v := 2) hC dL_law_834 rfl ic_2 ?_
  refine g_iadd hC dL_law_835 rfl ?_
  refine g_sld hC hX dL_law_836 rfl hM (fun x2 hM => ?_)
  refine g_aload_n hC dL_law_837 rfl 0 rfl ?_
  refine g_iload_n hC dL_law_838 rfl 3 rfl ?_
  refine g_iconst (v := 3) hC dL_law_839 rfl ic_3 ?_
  refine g_iadd hC dL_law_840 rfl ?_
  refine g_sld hC hX dL_law_841 rfl hM (fun x3 hM => ?_)
  refine g_if_eq (tgt := 849) hC dL_law_842 rfl (by decide) hM (fun hM => ?_) (fun hM => ?_)
  · refine g_iconst (v := 0) hC dL_law_849 rfl ic_0 ?_
    exact g_sub [0, 1, 2, 3] ((bL_law_850 hC hml hR hf sl sc hX rec ih ) _ _ _ _ _ _ _ _ _ hv1 hv2 hv1 hM) rfl
  · refine g_iconst (v := 1) hC dL_law_845 rfl ic_1 ?_
    refine g_goto (tgt := 850) hC dL_law_846 rfl (by decide) ?_
    exact g_sub [0, 1, 2, 3] ((bL_law_850 hC hml hR hf sl sc hX rec ih ) _ _ _ _ _ _ _ _ _ hv1 hv2 hv1 hM) rfl
def BL_law_885 (sl : Nat) (sc : Nat → Int32) (rec : Sto → Rho → Nat → Nat → Int32 → Option (Int32)) (σ : Sto) (ρ : Rho) (v1 : Nat) (v2 : Nat) (v3 : Int32) : Option (Int32) :=
  Option.bind (sg sl sc ((v3 + (1 : Int32)))) fun x1 =>
  Option.bind (sg sl sc ((v3 + (2 : Int32)))) fun x2 =>
  Option.bind (MX11_polar σ ρ v1 x1 x2) fun c3 =>
  Option.bind (sg sl sc ((v3 + (1 : Int32)))) fun x4 =>
  Option.bind (sg sl sc ((v3 + (2 : Int32)))) fun x5 =>
  Option.bind (MX12_polar c3.2 ρ v2 x4 x5) fun c6 =>
  if c3.1 = c6.1 then
    BL_law_1271 sl sc rec c6.2 ρ v1 v2 v3
  else
    some ((0 : Int32))
set_option maxHeartbeats 4000000 in
set_option maxRecDepth 100000 in
theorem bL_law_885 {X : CX} {cs ss n : Nat} {res : Int32} (hC : Cx X cL_law RL 12) (hml : (xc X).maxLocals = 4) (hR : RtL X res) (hf : cs ≤ (xR X).cells ∧ ss ≤ (xR X).slots) {sb : Nat} (sl : Nat) (sc : Nat → Int32) (hX : SX X sb sl sc) (rec : Sto → Rho → Nat → Nat → Int32 → Option (Int32)) (ih : ∀ (σ : Sto) (ρ : Rho) (v1 : Nat) (v2 : Nat) (v3 : Int32) (hv1 : Sh n v1 10) (hv2 : Sh n v2 11), rec σ ρ v1 v2 v3 = some res → G X cs ss n σ ρ 18 [(0, .ref sb), (1, vr X v1), (2, vr X v2), (3, .int v3)] []) : ∀ (σ : Sto) (ρ : Rho) (v1 : Nat) (v2 : Nat) (v3 : Int32) (hv1 : Sh n v1 10) (hv2 : Sh n v2 11), BL_law_885 sl sc rec σ ρ v1 v2 v3 = some res → G X cs ss n σ ρ 885 [(0, .ref sb), (1, vr X v1), (2, vr X v2), (3, .int v3)] [] := by
  intro σ ρ v1 v2 v3 hv1 hv2 hM
  unfold BL_law_885 at hM
  refine g_aload_n hC dL_law_885 rfl 1 rfl ?_
  refine g_aload_n hC dL_law_886 rfl 0 rfl ?_
  refine g_iload_n hC dL_law_887 rfl 3 rfl ?_
  refine g_iconst (v := 1) hC dL_law_888 rfl ic_1 ?_
  refine g_iadd hC dL_law_889 rfl ?_
  refine g_sld hC hX dL_law_890 rfl hM (fun x1 hM => ?_)
  refine g_aload_n hC dL_law_891 rfl 0 rfl ?_
  refine g_iload_n hC dL_law_892 rfl 3 rfl ?_
  refine g_iconst (v := 2) hC dL_law_893 rfl ic_2 ?_
  refine g_iadd hC dL_law_894 rfl ?_
  refine g_sld hC hX dL_law_895 rfl hM (fun x2 hM => ?_)
  refine g_callVi (As := [.int x1, .int x2]) (st' := []) (k := v1) (L' := 5) hC Y_X11_polar I_X11_polar k_945 ⟨by decide, by decide⟩ hv1 (ci := 10) (by decide) rfl dL_law_896 rfl rfl rfl (Nat.le_of_ble_eq_true rfl) hf hM (fun c hc => c_X11_polar (xE X) v1 hv1 x1 x2 c hc) (fun c3 hM => ?_)
  refine g_aload_n hC dL_law_899 rfl 2 rfl ?_
  refine g_aload_n hC dL_law_900 rfl 0 rfl ?_
  refine g_iload_n hC dL_law_901 rfl 3 rfl ?_
  refine g_iconst (v := 1) hC dL_law_902 rfl ic_1 ?_
  refine g_iadd hC dL_law_903 rfl ?_
  refine g_sld hC hX dL_law_904 rfl hM (fun x4 hM => ?_)
  refine g_aload_n hC dL_law_905 rfl 0 rfl ?_
  refine g_iload_n hC dL_law_906 rfl 3 rfl ?_
  refine g_iconst (v := 2) hC dL_law_907 rfl ic_2 ?_
  refine g_iadd hC dL_law_908 rfl ?_
  refine g_sld hC hX dL_law_909 rfl hM (fun x5 hM => ?_)
  refine g_callVi (As := [.int x4, .int x5]) (st' := [.int c3.1]) (k := v2) (L' := 3) hC Y_X12_polar I_X12_polar k_1371 ⟨by decide, by decide⟩ hv2 (ci := 11) (by decide) rfl dL_law_910 rfl rfl rfl (Nat.le_of_ble_eq_true rfl) hf hM (fun c hc => c_X12_polar (xE X) v2 hv2 x4 x5 c hc) (fun c6 hM => ?_)
  refine g_icmp_eq (tgt := 1271) hC dL_law_913 rfl (by decide) hM (fun hM => ?_) (fun hM => ?_)
  · exact g_sub [0, 1, 2, 3] ((bL_law_1271 hC hml hR hf sl sc hX rec ih ) _ _ _ _ _ hv1 hv2 hM) rfl
  · refine g_iconst (v := 0) hC dL_law_916 rfl ic_0 ?_
    cases hM
    exact hR _ _ _ _ _ _ _ hf.1 hf.2 dL_law_917
def BL_law_918 (sl : Nat) (sc : Nat → Int32) (rec : Sto → Rho → Nat → Nat → Int32 → Option (Int32)) (σ : Sto) (ρ : Rho) (v1 : Nat) (v2 : Nat) (v3 : Int32) : Option (Int32) :=
  Option.bind (sg sl sc ((v3 + (1 : Int32)))) fun x1 =>
  Option.bind (sg sl sc ((v3 + (2 : Int32)))) fun x2 =>
  Option.bind (MX11_pole σ ρ v1 x1 x2) fun c3 =>
  Option.bind (sg sl sc ((v3 + (1 : Int32)))) fun x4 =>
  Option.bind (sg sl sc ((v3 + (2 : Int32)))) fun x5 =>
  Option.bind (MX12_pole c3.2 ρ v2 x4 x5) fun c6 =>
  if c3.1 = c6.1 then
    BL_law_1271 sl sc rec c6.2 ρ v1 v2 v3
  else
    some ((0 : Int32))
set_option maxHeartbeats 4000000 in
set_option maxRecDepth 100000 in
theorem bL_law_918 {X : CX} {cs ss n : Nat} {res : Int32} (hC : Cx X cL_law RL 12) (hml : (xc X).maxLocals = 4) (hR : RtL X res) (hf : cs ≤ (xR X).cells ∧ ss ≤ (xR X).slots) {sb : Nat} (sl : Nat) (sc : Nat → Int32) (hX : SX X sb sl sc) (rec : Sto → Rho → Nat → Nat → Int32 → Option (Int32)) (ih : ∀ (σ : Sto) (ρ : Rho) (v1 : Nat) (v2 : Nat) (v3 : Int32) (hv1 : Sh n v1 10) (hv2 : Sh n v2 11), rec σ ρ v1 v2 v3 = some res → G X cs ss n σ ρ 18 [(0, .ref sb), (1, vr X v1), (2, vr X v2), (3, .int v3)] []) : ∀ (σ : Sto) (ρ : Rho) (v1 : Nat) (v2 : Nat) (v3 : Int32) (hv1 : Sh n v1 10) (hv2 : Sh n v2 11), BL_law_918 sl sc rec σ ρ v1 v2 v3 = some res → G X cs ss n σ ρ 918 [(0, .ref sb), (1, vr X v1), (2, vr X v2), (3, .int v3)] [] := by
  intro σ ρ v1 v2 v3 hv1 hv2 hM
  unfold BL_law_918 at hM
  refine g_aload_n hC dL_law_918 rfl 1 rfl ?_
  refine g_aload_n hC dL_law_919 rfl 0 rfl ?_
  refine g_iload_n hC dL_law_920 rfl 3 rfl ?_
  refine g_iconst (v := 1) hC dL_law_921 rfl ic_1 ?_
  refine g_iadd hC dL_law_922 rfl ?_
  refine g_sld hC hX dL_law_923 rfl hM (fun x1 hM => ?_)
  refine g_aload_n hC dL_law_924 rfl 0 rfl ?_
  refine g_iload_n hC dL_law_925 rfl 3 rfl ?_
  refine g_iconst (v := 2) hC dL_law_926 rfl ic_2 ?_
  refine g_iadd hC dL_law_927 rfl ?_
  refine g_sld hC hX dL_law_928 rfl hM (fun x2 hM => ?_)
  refine g_callVi (As := [.int x1, .int x2]) (st' := []) (k := v1) (L' := 5) hC Y_X11_pole I_X11_pole k_949 ⟨by decide, by decide⟩ hv1 (ci := 10) (by decide) rfl dL_law_929 rfl rfl rfl (Nat.le_of_ble_eq_true rfl) hf hM (fun c hc => c_X11_pole (xE X) v1 hv1 x1 x2 c hc) (fun c3 hM => ?_)
  refine g_aload_n hC dL_law_932 rfl 2 rfl ?_
  refine g_aload_n hC dL_law_933 rfl 0 rfl ?_
  refine g_iload_n hC dL_law_934 rfl 3 rfl ?_
  refine g_iconst (v := 1) hC dL_law_935 rfl ic_1 ?_
  refine g_iadd hC dL_law_936 rfl ?_
  refine g_sld hC hX dL_law_937 rfl hM (fun x4 hM => ?_)
  refine g_aload_n hC dL_law_938 rfl 0 rfl ?_
  refine g_iload_n hC dL_law_939 rfl 3 rfl ?_
  refine g_iconst (v := 2) hC dL_law_940 rfl ic_2 ?_
  refine g_iadd hC dL_law_941 rfl ?_
  refine g_sld hC hX dL_law_942 rfl hM (fun x5 hM => ?_)
  refine g_callVi (As := [.int x4, .int x5]) (st' := [.int c3.1]) (k := v2) (L' := 3) hC Y_X12_pole I_X12_pole k_1375 ⟨by decide, by decide⟩ hv2 (ci := 11) (by decide) rfl dL_law_943 rfl rfl rfl (Nat.le_of_ble_eq_true rfl) hf hM (fun c hc => c_X12_pole (xE X) v2 hv2 x4 x5 c hc) (fun c6 hM => ?_)
  refine g_icmp_eq (tgt := 1271) hC dL_law_946 rfl (by decide) hM (fun hM => ?_) (fun hM => ?_)
  · exact g_sub [0, 1, 2, 3] ((bL_law_1271 hC hml hR hf sl sc hX rec ih ) _ _ _ _ _ hv1 hv2 hM) rfl
  · refine g_iconst (v := 0) hC dL_law_949 rfl ic_0 ?_
    cases hM
    exact hR _ _ _ _ _ _ _ hf.1 hf.2 dL_law_950
def BL_law_951 (sl : Nat) (sc : Nat → Int32) (rec : Sto → Rho → Nat → Nat → Int32 → Option (Int32)) (σ : Sto) (ρ : Rho) (v1 : Nat) (v2 : Nat) (v3 : Int32) : Option (Int32) :=
  Option.bind (sg sl sc ((v3 + (1 : Int32)))) fun x1 =>
  Option.bind (sg sl sc ((v3 + (2 : Int32)))) fun x2 =>
  Option.bind (MX11_meets σ ρ v1 x1 x2) fun c3 =>
  Option.bind (sg sl sc ((v3 + (1 : Int32)))) fun x4 =>
  Option.bind (sg sl sc ((v3 + (2 : Int32)))) fun x5 =>
  Option.bind (MX12_meets c3.2 ρ v2 x4 x5) fun c6 =>
  if c3.1 = c6.1 then
    BL_law_1271 sl sc rec c6.2 ρ v1 v2 v3
  else
    some ((0 : Int32))
set_option maxHeartbeats 4000000 in
set_option maxRecDepth 100000 in
theorem bL_law_951 {X : CX} {cs ss n : Nat} {res : Int32} (hC : Cx X cL_law RL 12) (hml : (xc X).maxLocals = 4) (hR : RtL X res) (hf : cs ≤ (xR X).cells ∧ ss ≤ (xR X).slots) {sb : Nat} (sl : Nat) (sc : Nat → Int32) (hX : SX X sb sl sc) (rec : Sto → Rho → Nat → Nat → Int32 → Option (Int32)) (ih : ∀ (σ : Sto) (ρ : Rho) (v1 : Nat) (v2 : Nat) (v3 : Int32) (hv1 : Sh n v1 10) (hv2 : Sh n v2 11), rec σ ρ v1 v2 v3 = some res → G X cs ss n σ ρ 18 [(0, .ref sb), (1, vr X v1), (2, vr X v2), (3, .int v3)] []) : ∀ (σ : Sto) (ρ : Rho) (v1 : Nat) (v2 : Nat) (v3 : Int32) (hv1 : Sh n v1 10) (hv2 : Sh n v2 11), BL_law_951 sl sc rec σ ρ v1 v2 v3 = some res → G X cs ss n σ ρ 951 [(0, .ref sb), (1, vr X v1), (2, vr X v2), (3, .int v3)] [] := by
  intro σ ρ v1 v2 v3 hv1 hv2 hM
  unfold BL_law_951 at hM
  refine g_aload_n hC dL_law_951 rfl 1 rfl ?_
  refine g_aload_n hC dL_law_952 rfl 0 rfl ?_
  refine g_iload_n hC dL_law_953 rfl 3 rfl ?_
  refine g_iconst (v := 1) hC dL_law_954 rfl ic_1 ?_
  refine g_iadd hC dL_law_955 rfl ?_
  refine g_sld hC hX dL_law_956 rfl hM (fun x1 hM => ?_)
  refine g_aload_n hC dL_law_957 rfl 0 rfl ?_
  refine g_iload_n hC dL_law_958 rfl 3 rfl ?_
  refine g_iconst (v := 2) hC dL_law_959 rfl ic_2 ?_
  refine g_iadd hC dL_law_960 rfl ?_
  refine g_sld hC hX dL_law_961 rfl hM (fun x2 hM => ?_)
  refine g_callVi (As := [.int x1, .int x2]) (st' := []) (k := v1) (L' := 5) hC Y_X11_meets I_X11_meets k_953 ⟨by decide, by decide⟩ hv1 (ci := 10) (by decide) rfl dL_law_962 rfl rfl rfl (Nat.le_of_ble_eq_true rfl) hf hM (fun c hc => c_X11_meets (xE X) v1 hv1 x1 x2 c hc) (fun c3 hM => ?_)
  refine g_aload_n hC dL_law_965 rfl 2 rfl ?_
  refine g_aload_n hC dL_law_966 rfl 0 rfl ?_
  refine g_iload_n hC dL_law_967 rfl 3 rfl ?_
  refine g_iconst (v := 1) hC dL_law_968 rfl ic_1 ?_
  refine g_iadd hC dL_law_969 rfl ?_
  refine g_sld hC hX dL_law_970 rfl hM (fun x4 hM => ?_)
  refine g_aload_n hC dL_law_971 rfl 0 rfl ?_
  refine g_iload_n hC dL_law_972 rfl 3 rfl ?_
  refine g_iconst (v := 2) hC dL_law_973 rfl ic_2 ?_
  refine g_iadd hC dL_law_974 rfl ?_
  refine g_sld hC hX dL_law_975 rfl hM (fun x5 hM => ?_)
  refine g_callVi (As := [.int x4, .int x5]) (st' := [.int c3.1]) (k := v2) (L' := 2) hC Y_X12_meets I_X12_meets k_1379 ⟨by decide, by decide⟩ hv2 (ci := 11) (by decide) rfl dL_law_976 rfl rfl rfl (Nat.le_of_ble_eq_true rfl) hf hM (fun c hc => c_X12_meets (xE X) v2 hv2 x4 x5 c hc) (fun c6 hM => ?_)
  refine g_icmp_eq (tgt := 1271) hC dL_law_979 rfl (by decide) hM (fun hM => ?_) (fun hM => ?_)
  · exact g_sub [0, 1, 2, 3] ((bL_law_1271 hC hml hR hf sl sc hX rec ih ) _ _ _ _ _ hv1 hv2 hM) rfl
  · refine g_iconst (v := 0) hC dL_law_982 rfl ic_0 ?_
    cases hM
    exact hR _ _ _ _ _ _ _ hf.1 hf.2 dL_law_983
def BL_law_984 (sl : Nat) (sc : Nat → Int32) (rec : Sto → Rho → Nat → Nat → Int32 → Option (Int32)) (σ : Sto) (ρ : Rho) (v1 : Nat) (v2 : Nat) (v3 : Int32) : Option (Int32) :=
  Option.bind (sg sl sc ((v3 + (1 : Int32)))) fun x1 =>
  Option.bind (sg sl sc ((v3 + (2 : Int32)))) fun x2 =>
  Option.bind (sg sl sc ((v3 + (3 : Int32)))) fun x3 =>
  Option.bind (MX11_tangent σ ρ v1 x1 x2 x3) fun c4 =>
  Option.bind (sg sl sc ((v3 + (1 : Int32)))) fun x5 =>
  Option.bind (sg sl sc ((v3 + (2 : Int32)))) fun x6 =>
  Option.bind (sg sl sc ((v3 + (3 : Int32)))) fun x7 =>
  Option.bind (MX12_tangent c4.2 ρ v2 x5 x6 x7) fun c8 =>
  if c4.1 = c8.1 then
    BL_law_1271 sl sc rec c8.2 ρ v1 v2 v3
  else
    some ((0 : Int32))
set_option maxHeartbeats 4000000 in
set_option maxRecDepth 100000 in
theorem bL_law_984 {X : CX} {cs ss n : Nat} {res : Int32} (hC : Cx X cL_law RL 12) (hml : (xc X).maxLocals = 4) (hR : RtL X res) (hf : cs ≤ (xR X).cells ∧ ss ≤ (xR X).slots) {sb : Nat} (sl : Nat) (sc : Nat → Int32) (hX : SX X sb sl sc) (rec : Sto → Rho → Nat → Nat → Int32 → Option (Int32)) (ih : ∀ (σ : Sto) (ρ : Rho) (v1 : Nat) (v2 : Nat) (v3 : Int32) (hv1 : Sh n v1 10) (hv2 : Sh n v2 11), rec σ ρ v1 v2 v3 = some res → G X cs ss n σ ρ 18 [(0, .ref sb), (1, vr X v1), (2, vr X v2), (3, .int v3)] []) : ∀ (σ : Sto) (ρ : Rho) (v1 : Nat) (v2 : Nat) (v3 : Int32) (hv1 : Sh n v1 10) (hv2 : Sh n v2 11), BL_law_984 sl sc rec σ ρ v1 v2 v3 = some res → G X cs ss n σ ρ 984 [(0, .ref sb), (1, vr X v1), (2, vr X v2), (3, .int v3)] [] := by
  intro σ ρ v1 v2 v3 hv1 hv2 hM
  unfold BL_law_984 at hM
  refine g_aload_n hC dL_law_984 rfl 1 rfl ?_
  refine g_aload_n hC dL_law_985 rfl 0 rfl ?_
  refine g_iload_n hC dL_law_986 rfl 3 rfl ?_
  refine g_iconst (v := 1) hC dL_law_987 rfl ic_1 ?_
  refine g_iadd hC dL_law_988 rfl ?_
  refine g_sld hC hX dL_law_989 rfl hM (fun x1 hM => ?_)
  refine g_aload_n hC dL_law_990 rfl 0 rfl ?_
  refine g_iload_n hC dL_law_991 rfl 3 rfl ?_
  refine g_iconst (v := 2) hC dL_law_992 rfl ic_2 ?_
  refine g_iadd hC dL_law_993 rfl ?_
  refine g_sld hC hX dL_law_994 rfl hM (fun x2 hM => ?_)
  refine g_aload_n hC dL_law_995 rfl 0 rfl ?_
  refine g_iload_n hC dL_law_996 rfl 3 rfl ?_
  refine g_iconst (v := 3) hC dL_law_997 rfl ic_3 ?_
  refine g_iadd hC dL_law_998 rfl ?_
  refine g_sld hC hX dL_law_999 rfl hM (fun x3 hM => ?_)
  refine g_callVi (As := [.int x1, .int x2, .int x3]) (st' := []) (k := v1) (L' := 6) hC Y_X11_tangent I_X11_tangent k_957 ⟨by decide, by decide⟩ hv1 (ci := 10) (by decide) rfl dL_law_1000 rfl rfl rfl (Nat.le_of_ble_eq_true rfl) hf hM (fun c hc => c_X11_tangent (xE X) v1 hv1 x1 x2 x3 c hc) (fun c4 hM => ?_)
  refine g_aload_n hC dL_law_1003 rfl 2 rfl ?_
  refine g_aload_n hC dL_law_1004 rfl 0 rfl ?_
  refine g_iload_n hC dL_law_1005 rfl 3 rfl ?_
  refine g_iconst (v := 1) hC dL_law_1006 rfl ic_1 ?_
  refine g_iadd hC dL_law_1007 rfl ?_
  refine g_sld hC hX dL_law_1008 rfl hM (fun x5 hM => ?_)
  refine g_aload_n hC dL_law_1009 rfl 0 rfl ?_
  refine g_iload_n hC dL_law_1010 rfl 3 rfl ?_
  refine g_iconst (v := 2) hC dL_law_1011 rfl ic_2 ?_
  refine g_iadd hC dL_law_1012 rfl ?_
  refine g_sld hC hX dL_law_1013 rfl hM (fun x6 hM => ?_)
  refine g_aload_n hC dL_law_1014 rfl 0 rfl ?_
  refine g_iload_n hC dL_law_1015 rfl 3 rfl ?_
  refine g_iconst (v := 3) hC dL_law_1016 rfl ic_3 ?_
  refine g_iadd hC dL_law_1017 rfl ?_
  refine g_sld hC hX dL_law_1018 rfl hM (fun x7 hM => ?_)
  refine g_callVi (As := [.int x5, .int x6, .int x7]) (st' := [.int c4.1]) (k := v2) (L' := 4) hC Y_X12_tangent I_X12_tangent k_1383 ⟨by decide, by decide⟩ hv2 (ci := 11) (by decide) rfl dL_law_1019 rfl rfl rfl (Nat.le_of_ble_eq_true rfl) hf hM (fun c hc => c_X12_tangent (xE X) v2 hv2 x5 x6 x7 c hc) (fun c8 hM => ?_)
  refine g_icmp_eq (tgt := 1271) hC dL_law_1022 rfl (by decide) hM (fun hM => ?_) (fun hM => ?_)
  · exact g_sub [0, 1, 2, 3] ((bL_law_1271 hC hml hR hf sl sc hX rec ih ) _ _ _ _ _ hv1 hv2 hM) rfl
  · refine g_iconst (v := 0) hC dL_law_1025 rfl ic_0 ?_
    cases hM
    exact hR _ _ _ _ _ _ _ hf.1 hf.2 dL_law_1026
def BL_law_1027 (sl : Nat) (sc : Nat → Int32) (rec : Sto → Rho → Nat → Nat → Int32 → Option (Int32)) (σ : Sto) (ρ : Rho) (v1 : Nat) (v2 : Nat) (v3 : Int32) : Option (Int32) :=
  Option.bind (sg sl sc ((v3 + (1 : Int32)))) fun x1 =>
  Option.bind (sg sl sc ((v3 + (2 : Int32)))) fun x2 =>
  Option.bind (sg sl sc ((v3 + (3 : Int32)))) fun x3 =>
  Option.bind (MX11_pencil σ ρ v1 x1 x2 x3) fun c4 =>
  Option.bind (sg sl sc ((v3 + (1 : Int32)))) fun x5 =>
  Option.bind (sg sl sc ((v3 + (2 : Int32)))) fun x6 =>
  Option.bind (sg sl sc ((v3 + (3 : Int32)))) fun x7 =>
  Option.bind (MX12_pencil c4.2 ρ v2 x5 x6 x7) fun c8 =>
  if c4.1 = c8.1 then
    BL_law_1271 sl sc rec c8.2 ρ v1 v2 v3
  else
    some ((0 : Int32))
set_option maxHeartbeats 4000000 in
set_option maxRecDepth 100000 in
theorem bL_law_1027 {X : CX} {cs ss n : Nat} {res : Int32} (hC : Cx X cL_law RL 12) (hml : (xc X).maxLocals = 4) (hR : RtL X res) (hf : cs ≤ (xR X).cells ∧ ss ≤ (xR X).slots) {sb : Nat} (sl : Nat) (sc : Nat → Int32) (hX : SX X sb sl sc) (rec : Sto → Rho → Nat → Nat → Int32 → Option (Int32)) (ih : ∀ (σ : Sto) (ρ : Rho) (v1 : Nat) (v2 : Nat) (v3 : Int32) (hv1 : Sh n v1 10) (hv2 : Sh n v2 11), rec σ ρ v1 v2 v3 = some res → G X cs ss n σ ρ 18 [(0, .ref sb), (1, vr X v1), (2, vr X v2), (3, .int v3)] []) : ∀ (σ : Sto) (ρ : Rho) (v1 : Nat) (v2 : Nat) (v3 : Int32) (hv1 : Sh n v1 10) (hv2 : Sh n v2 11), BL_law_1027 sl sc rec σ ρ v1 v2 v3 = some res → G X cs ss n σ ρ 1027 [(0, .ref sb), (1, vr X v1), (2, vr X v2), (3, .int v3)] [] := by
  intro σ ρ v1 v2 v3 hv1 hv2 hM
  unfold BL_law_1027 at hM
  refine g_aload_n hC dL_law_1027 rfl 1 rfl ?_
  refine g_aload_n hC dL_law_1028 rfl 0 rfl ?_
  refine g_iload_n hC dL_law_1029 rfl 3 rfl ?_
  refine g_iconst (v := 1) hC dL_law_1030 rfl ic_1 ?_
  refine g_iadd hC dL_law_1031 rfl ?_
  refine g_sld hC hX dL_law_1032 rfl hM (fun x1 hM => ?_)
  refine g_aload_n hC dL_law_1033 rfl 0 rfl ?_
  refine g_iload_n hC dL_law_1034 rfl 3 rfl ?_
  refine g_iconst (v := 2) hC dL_law_1035 rfl ic_2 ?_
  refine g_iadd hC dL_law_1036 rfl ?_
  refine g_sld hC hX dL_law_1037 rfl hM (fun x2 hM => ?_)
  refine g_aload_n hC dL_law_1038 rfl 0 rfl ?_
  refine g_iload_n hC dL_law_1039 rfl 3 rfl ?_
  refine g_iconst (v := 3) hC dL_law_1040 rfl ic_3 ?_
  refine g_iadd hC dL_law_1041 rfl ?_
  refine g_sld hC hX dL_law_1042 rfl hM (fun x3 hM => ?_)
  refine g_callVi (As := [.int x1, .int x2, .int x3]) (st' := []) (k := v1) (L' := 6) hC Y_X11_pencil I_X11_pencil k_965 ⟨by decide, by decide⟩ hv1 (ci := 10) (by decide) rfl dL_law_1043 rfl rfl rfl (Nat.le_of_ble_eq_true rfl) hf hM (fun c hc => c_X11_pencil (xE X) v1 hv1 x1 x2 x3 c hc) (fun c4 hM => ?_)
  refine g_aload_n hC dL_law_1046 rfl 2 rfl ?_
  refine g_aload_n hC dL_law_1047 rfl 0 rfl ?_
  refine g_iload_n hC dL_law_1048 rfl 3 rfl ?_
  refine g_iconst (v := 1) hC dL_law_1049 rfl ic_1 ?_
  refine g_iadd hC dL_law_1050 rfl ?_
  refine g_sld hC hX dL_law_1051 rfl hM (fun x5 hM => ?_)
  refine g_aload_n hC dL_law_1052 rfl 0 rfl ?_
  refine g_iload_n hC dL_law_1053 rfl 3 rfl ?_
  refine g_iconst (v := 2) hC dL_law_1054 rfl ic_2 ?_
  refine g_iadd hC dL_law_1055 rfl ?_
  refine g_sld hC hX dL_law_1056 rfl hM (fun x6 hM => ?_)
  refine g_aload_n hC dL_law_1057 rfl 0 rfl ?_
  refine g_iload_n hC dL_law_1058 rfl 3 rfl ?_
  refine g_iconst (v := 3) hC dL_law_1059 rfl ic_3 ?_
  refine g_iadd hC dL_law_1060 rfl ?_
  refine g_sld hC hX dL_law_1061 rfl hM (fun x7 hM => ?_)
  refine g_callVi (As := [.int x5, .int x6, .int x7]) (st' := [.int c4.1]) (k := v2) (L' := 5) hC Y_X12_pencil I_X12_pencil k_1391 ⟨by decide, by decide⟩ hv2 (ci := 11) (by decide) rfl dL_law_1062 rfl rfl rfl (Nat.le_of_ble_eq_true rfl) hf hM (fun c hc => c_X12_pencil (xE X) v2 hv2 x5 x6 x7 c hc) (fun c8 hM => ?_)
  refine g_icmp_eq (tgt := 1271) hC dL_law_1065 rfl (by decide) hM (fun hM => ?_) (fun hM => ?_)
  · exact g_sub [0, 1, 2, 3] ((bL_law_1271 hC hml hR hf sl sc hX rec ih ) _ _ _ _ _ hv1 hv2 hM) rfl
  · refine g_iconst (v := 0) hC dL_law_1068 rfl ic_0 ?_
    cases hM
    exact hR _ _ _ _ _ _ _ hf.1 hf.2 dL_law_1069
def BL_law_1070 (sl : Nat) (sc : Nat → Int32) (rec : Sto → Rho → Nat → Nat → Int32 → Option (Int32)) (σ : Sto) (ρ : Rho) (v1 : Nat) (v2 : Nat) (v3 : Int32) : Option (Int32) :=
  Option.bind (sg sl sc ((v3 + (1 : Int32)))) fun x1 =>
  Option.bind (sg sl sc ((v3 + (2 : Int32)))) fun x2 =>
  Option.bind (sg sl sc ((v3 + (3 : Int32)))) fun x3 =>
  Option.bind (sg sl sc ((v3 + (4 : Int32)))) fun x4 =>
  Option.bind (MX11_member σ ρ v1 x1 x2 x3 x4) fun c5 =>
  Option.bind (sg sl sc ((v3 + (1 : Int32)))) fun x6 =>
  Option.bind (sg sl sc ((v3 + (2 : Int32)))) fun x7 =>
  Option.bind (sg sl sc ((v3 + (3 : Int32)))) fun x8 =>
  Option.bind (sg sl sc ((v3 + (4 : Int32)))) fun x9 =>
  Option.bind (MX12_member c5.2 ρ v2 x6 x7 x8 x9) fun c10 =>
  if c5.1 = c10.1 then
    BL_law_1271 sl sc rec c10.2 ρ v1 v2 v3
  else
    some ((0 : Int32))
set_option maxHeartbeats 4000000 in
set_option maxRecDepth 100000 in
theorem bL_law_1070 {X : CX} {cs ss n : Nat} {res : Int32} (hC : Cx X cL_law RL 12) (hml : (xc X).maxLocals = 4) (hR : RtL X res) (hf : cs ≤ (xR X).cells ∧ ss ≤ (xR X).slots) {sb : Nat} (sl : Nat) (sc : Nat → Int32) (hX : SX X sb sl sc) (rec : Sto → Rho → Nat → Nat → Int32 → Option (Int32)) (ih : ∀ (σ : Sto) (ρ : Rho) (v1 : Nat) (v2 : Nat) (v3 : Int32) (hv1 : Sh n v1 10) (hv2 : Sh n v2 11), rec σ ρ v1 v2 v3 = some res → G X cs ss n σ ρ 18 [(0, .ref sb), (1, vr X v1), (2, vr X v2), (3, .int v3)] []) : ∀ (σ : Sto) (ρ : Rho) (v1 : Nat) (v2 : Nat) (v3 : Int32) (hv1 : Sh n v1 10) (hv2 : Sh n v2 11), BL_law_1070 sl sc rec σ ρ v1 v2 v3 = some res → G X cs ss n σ ρ 1070 [(0, .ref sb), (1, vr X v1), (2, vr X v2), (3, .int v3)] [] := by
  intro σ ρ v1 v2 v3 hv1 hv2 hM
  unfold BL_law_1070 at hM
  refine g_aload_n hC dL_law_1070 rfl 1 rfl ?_
  refine g_aload_n hC dL_law_1071 rfl 0 rfl ?_
  refine g_iload_n hC dL_law_1072 rfl 3 rfl ?_
  refine g_iconst (v := 1) hC dL_law_1073 rfl ic_1 ?_
  refine g_iadd hC dL_law_1074 rfl ?_
  refine g_sld hC hX dL_law_1075 rfl hM (fun x1 hM => ?_)
  refine g_aload_n hC dL_law_1076 rfl 0 rfl ?_
  refine g_iload_n hC dL_law_1077 rfl 3 rfl ?_
  refine g_iconst (v := 2) hC dL_law_1078 rfl ic_2 ?_
  refine g_iadd hC dL_law_1079 rfl ?_
  refine g_sld hC hX dL_law_1080 rfl hM (fun x2 hM => ?_)
  refine g_aload_n hC dL_law_1081 rfl 0 rfl ?_
  refine g_iload_n hC dL_law_1082 rfl 3 rfl ?_
  refine g_iconst (v := 3) hC dL_law_1083 rfl ic_3 ?_
  refine g_iadd hC dL_law_1084 rfl ?_
  refine g_sld hC hX dL_law_1085 rfl hM (fun x3 hM => ?_)
  refine g_aload_n hC dL_law_1086 rfl 0 rfl ?_
  refine g_iload_n hC dL_law_1087 rfl 3 rfl ?_
  refine g_iconst (v := 4) hC dL_law_1088 rfl ic_4 ?_
  refine g_iadd hC dL_law_1089 rfl ?_
  refine g_sld hC hX dL_law_1090 rfl hM (fun x4 hM => ?_)
  refine g_callVi (As := [.int x1, .int x2, .int x3, .int x4]) (st' := []) (k := v1) (L' := 6) hC Y_X11_member I_X11_member k_1026 ⟨by decide, by decide⟩ hv1 (ci := 10) (by decide) rfl dL_law_1091 rfl rfl rfl (Nat.le_of_ble_eq_true rfl) hf hM (fun c hc => c_X11_member (xE X) v1 hv1 x1 x2 x3 x4 c hc) (fun c5 hM => ?_)
  refine g_aload_n hC dL_law_1094 rfl 2 rfl ?_
  refine g_aload_n hC dL_law_1095 rfl 0 rfl ?_
  refine g_iload_n hC dL_law_1096 rfl 3 rfl ?_
  refine g_iconst (v := 1) hC dL_law_1097 rfl ic_1 ?_
  refine g_iadd hC dL_law_1098 rfl ?_
  refine g_sld hC hX dL_law_1099 rfl hM (fun x6 hM => ?_)
  refine g_aload_n hC dL_law_1100 rfl 0 rfl ?_
  refine g_iload_n hC dL_law_1101 rfl 3 rfl ?_
  refine g_iconst (v := 2) hC dL_law_1102 rfl ic_2 ?_
  refine g_iadd hC dL_law_1103 rfl ?_
  refine g_sld hC hX dL_law_1104 rfl hM (fun x7 hM => ?_)
  refine g_aload_n hC dL_law_1105 rfl 0 rfl ?_
  refine g_iload_n hC dL_law_1106 rfl 3 rfl ?_
  refine g_iconst (v := 3) hC dL_law_1107 rfl ic_3 ?_
  refine g_iadd hC dL_law_1108 rfl ?_
  refine g_sld hC hX dL_law_1109 rfl hM (fun x8 hM => ?_)
  refine g_aload_n hC dL_law_1110 rfl 0 rfl ?_
  refine g_iload_n hC dL_law_1111 rfl 3 rfl ?_
  refine g_iconst (v := 4) hC dL_law_1112 rfl ic_4 ?_
  refine g_iadd hC dL_law_1113 rfl ?_
  refine g_sld hC hX dL_law_1114 rfl hM (fun x9 hM => ?_)
  refine g_callVi (As := [.int x6, .int x7, .int x8, .int x9]) (st' := [.int c5.1]) (k := v2) (L' := 3) hC Y_X12_member I_X12_member k_1423 ⟨by decide, by decide⟩ hv2 (ci := 11) (by decide) rfl dL_law_1115 rfl rfl rfl (Nat.le_of_ble_eq_true rfl) hf hM (fun c hc => c_X12_member (xE X) v2 hv2 x6 x7 x8 x9 c hc) (fun c10 hM => ?_)
  refine g_icmp_eq (tgt := 1271) hC dL_law_1118 rfl (by decide) hM (fun hM => ?_) (fun hM => ?_)
  · exact g_sub [0, 1, 2, 3] ((bL_law_1271 hC hml hR hf sl sc hX rec ih ) _ _ _ _ _ hv1 hv2 hM) rfl
  · refine g_iconst (v := 0) hC dL_law_1121 rfl ic_0 ?_
    cases hM
    exact hR _ _ _ _ _ _ _ hf.1 hf.2 dL_law_1122
def BL_law_1123 (sl : Nat) (sc : Nat → Int32) (rec : Sto → Rho → Nat → Nat → Int32 → Option (Int32)) (σ : Sto) (ρ : Rho) (v1 : Nat) (v2 : Nat) (v3 : Int32) : Option (Int32) :=
  Option.bind (sg sl sc ((v3 + (1 : Int32)))) fun x1 =>
  Option.bind (sg sl sc ((v3 + (2 : Int32)))) fun x2 =>
  Option.bind (sg sl sc ((v3 + (3 : Int32)))) fun x3 =>
  Option.bind (MX11_passing σ ρ v1 x1 x2 x3) fun c4 =>
  Option.bind (sg sl sc ((v3 + (1 : Int32)))) fun x5 =>
  Option.bind (sg sl sc ((v3 + (2 : Int32)))) fun x6 =>
  Option.bind (sg sl sc ((v3 + (3 : Int32)))) fun x7 =>
  Option.bind (MX12_passing c4.2 ρ v2 x5 x6 x7) fun c8 =>
  if c4.1 = c8.1 then
    BL_law_1271 sl sc rec c8.2 ρ v1 v2 v3
  else
    some ((0 : Int32))
set_option maxHeartbeats 4000000 in
set_option maxRecDepth 100000 in
theorem bL_law_1123 {X : CX} {cs ss n : Nat} {res : Int32} (hC : Cx X cL_law RL 12) (hml : (xc X).maxLocals = 4) (hR : RtL X res) (hf : cs ≤ (xR X).cells ∧ ss ≤ (xR X).slots) {sb : Nat} (sl : Nat) (sc : Nat → Int32) (hX : SX X sb sl sc) (rec : Sto → Rho → Nat → Nat → Int32 → Option (Int32)) (ih : ∀ (σ : Sto) (ρ : Rho) (v1 : Nat) (v2 : Nat) (v3 : Int32) (hv1 : Sh n v1 10) (hv2 : Sh n v2 11), rec σ ρ v1 v2 v3 = some res → G X cs ss n σ ρ 18 [(0, .ref sb), (1, vr X v1), (2, vr X v2), (3, .int v3)] []) : ∀ (σ : Sto) (ρ : Rho) (v1 : Nat) (v2 : Nat) (v3 : Int32) (hv1 : Sh n v1 10) (hv2 : Sh n v2 11), BL_law_1123 sl sc rec σ ρ v1 v2 v3 = some res → G X cs ss n σ ρ 1123 [(0, .ref sb), (1, vr X v1), (2, vr X v2), (3, .int v3)] [] := by
  intro σ ρ v1 v2 v3 hv1 hv2 hM
  unfold BL_law_1123 at hM
  refine g_aload_n hC dL_law_1123 rfl 1 rfl ?_
  refine g_aload_n hC dL_law_1124 rfl 0 rfl ?_
  refine g_iload_n hC dL_law_1125 rfl 3 rfl ?_
  refine g_iconst (v := 1) hC dL_law_1126 rfl ic_1 ?_
  refine g_iadd hC dL_law_1127 rfl ?_
  refine g_sld hC hX dL_law_1128 rfl hM (fun x1 hM => ?_)
  refine g_aload_n hC dL_law_1129 rfl 0 rfl ?_
  refine g_iload_n hC dL_law_1130 rfl 3 rfl ?_
  refine g_iconst (v := 2) hC dL_law_1131 rfl ic_2 ?_
  refine g_iadd hC dL_law_1132 rfl ?_
  refine g_sld hC hX dL_law_1133 rfl hM (fun x2 hM => ?_)
  refine g_aload_n hC dL_law_1134 rfl 0 rfl ?_
  refine g_iload_n hC dL_law_1135 rfl 3 rfl ?_
  refine g_iconst (v := 3) hC dL_law_1136 rfl ic_3 ?_
  refine g_iadd hC dL_law_1137 rfl ?_
  refine g_sld hC hX dL_law_1138 rfl hM (fun x3 hM => ?_)
  refine g_callVi (As := [.int x1, .int x2, .int x3]) (st' := []) (k := v1) (L' := 6) hC Y_X11_passing I_X11_passing k_1030 ⟨by decide, by decide⟩ hv1 (ci := 10) (by decide) rfl dL_law_1139 rfl rfl rfl (Nat.le_of_ble_eq_true rfl) hf hM (fun c hc => c_X11_passing (xE X) v1 hv1 x1 x2 x3 c hc) (fun c4 hM => ?_)
  refine g_aload_n hC dL_law_1142 rfl 2 rfl ?_
  refine g_aload_n hC dL_law_1143 rfl 0 rfl ?_
  refine g_iload_n hC dL_law_1144 rfl 3 rfl ?_
  refine g_iconst (v := 1) hC dL_law_1145 rfl ic_1 ?_
  refine g_iadd hC dL_law_1146 rfl ?_
  refine g_sld hC hX dL_law_1147 rfl hM (fun x5 hM => ?_)
  refine g_aload_n hC dL_law_1148 rfl 0 rfl ?_
  refine g_iload_n hC dL_law_1149 rfl 3 rfl ?_
  refine g_iconst (v := 2) hC dL_law_1150 rfl ic_2 ?_
  refine g_iadd hC dL_law_1151 rfl ?_
  refine g_sld hC hX dL_law_1152 rfl hM (fun x6 hM => ?_)
  refine g_aload_n hC dL_law_1153 rfl 0 rfl ?_
  refine g_iload_n hC dL_law_1154 rfl 3 rfl ?_
  refine g_iconst (v := 3) hC dL_law_1155 rfl ic_3 ?_
  refine g_iadd hC dL_law_1156 rfl ?_
  refine g_sld hC hX dL_law_1157 rfl hM (fun x7 hM => ?_)
  refine g_callVi (As := [.int x5, .int x6, .int x7]) (st' := [.int c4.1]) (k := v2) (L' := 3) hC Y_X12_passing I_X12_passing k_1427 ⟨by decide, by decide⟩ hv2 (ci := 11) (by decide) rfl dL_law_1158 rfl rfl rfl (Nat.le_of_ble_eq_true rfl) hf hM (fun c hc => c_X12_passing (xE X) v2 hv2 x5 x6 x7 c hc) (fun c8 hM => ?_)
  refine g_icmp_eq (tgt := 1271) hC dL_law_1161 rfl (by decide) hM (fun hM => ?_) (fun hM => ?_)
  · exact g_sub [0, 1, 2, 3] ((bL_law_1271 hC hml hR hf sl sc hX rec ih ) _ _ _ _ _ hv1 hv2 hM) rfl
  · refine g_iconst (v := 0) hC dL_law_1164 rfl ic_0 ?_
    cases hM
    exact hR _ _ _ _ _ _ _ hf.1 hf.2 dL_law_1165
def BL_law_1166 (sl : Nat) (sc : Nat → Int32) (rec : Sto → Rho → Nat → Nat → Int32 → Option (Int32)) (σ : Sto) (ρ : Rho) (v1 : Nat) (v2 : Nat) (v3 : Int32) : Option (Int32) :=
  Option.bind (sg sl sc ((v3 + (1 : Int32)))) fun x1 =>
  Option.bind (MX11_only σ ρ v1 x1) fun c2 =>
  Option.bind (sg sl sc ((v3 + (1 : Int32)))) fun x3 =>
  Option.bind (MX12_only c2.2.1 c2.2.2 v2 x3) fun c4 =>
  if c2.1 = c4.1 then
    BL_law_1271 sl sc rec c4.2 c2.2.2 v1 v2 v3
  else
    some ((0 : Int32))
set_option maxHeartbeats 4000000 in
set_option maxRecDepth 100000 in
theorem bL_law_1166 {X : CX} {cs ss n : Nat} {res : Int32} (hC : Cx X cL_law RL 12) (hml : (xc X).maxLocals = 4) (hR : RtL X res) (hf : cs ≤ (xR X).cells ∧ ss ≤ (xR X).slots) {sb : Nat} (sl : Nat) (sc : Nat → Int32) (hX : SX X sb sl sc) (rec : Sto → Rho → Nat → Nat → Int32 → Option (Int32)) (ih : ∀ (σ : Sto) (ρ : Rho) (v1 : Nat) (v2 : Nat) (v3 : Int32) (hv1 : Sh n v1 10) (hv2 : Sh n v2 11), rec σ ρ v1 v2 v3 = some res → G X cs ss n σ ρ 18 [(0, .ref sb), (1, vr X v1), (2, vr X v2), (3, .int v3)] []) : ∀ (σ : Sto) (ρ : Rho) (v1 : Nat) (v2 : Nat) (v3 : Int32) (hv1 : Sh n v1 10) (hv2 : Sh n v2 11), BL_law_1166 sl sc rec σ ρ v1 v2 v3 = some res → G X cs ss n σ ρ 1166 [(0, .ref sb), (1, vr X v1), (2, vr X v2), (3, .int v3)] [] := by
  intro σ ρ v1 v2 v3 hv1 hv2 hM
  unfold BL_law_1166 at hM
  refine g_aload_n hC dL_law_1166 rfl 1 rfl ?_
  refine g_aload_n hC dL_law_1167 rfl 0 rfl ?_
  refine g_iload_n hC dL_law_1168 rfl 3 rfl ?_
  refine g_iconst (v := 1) hC dL_law_1169 rfl ic_1 ?_
  refine g_iadd hC dL_law_1170 rfl ?_
  refine g_sld hC hX dL_law_1171 rfl hM (fun x1 hM => ?_)
  refine g_callVi (As := [.int x1]) (st' := []) (k := v1) (L' := 6) hC Y_X11_only I_X11_only k_1038 ⟨by decide, by decide⟩ hv1 (ci := 10) (by decide) rfl dL_law_1172 rfl rfl rfl (Nat.le_of_ble_eq_true rfl) hf hM (fun c hc => c_X11_only (xE X) v1 hv1 x1 c hc) (fun c2 hM => ?_)
  refine g_aload_n hC dL_law_1175 rfl 2 rfl ?_
  refine g_aload_n hC dL_law_1176 rfl 0 rfl ?_
  refine g_iload_n hC dL_law_1177 rfl 3 rfl ?_
  refine g_iconst (v := 1) hC dL_law_1178 rfl ic_1 ?_
  refine g_iadd hC dL_law_1179 rfl ?_
  refine g_sld hC hX dL_law_1180 rfl hM (fun x3 hM => ?_)
  refine g_callVi (As := [.int x3]) (st' := [.int c2.1]) (k := v2) (L' := 4) hC Y_X12_only I_X12_only k_1431 ⟨by decide, by decide⟩ hv2 (ci := 11) (by decide) rfl dL_law_1181 rfl rfl rfl (Nat.le_of_ble_eq_true rfl) hf hM (fun c hc => c_X12_only (xE X) v2 hv2 x3 c hc) (fun c4 hM => ?_)
  refine g_icmp_eq (tgt := 1271) hC dL_law_1184 rfl (by decide) hM (fun hM => ?_) (fun hM => ?_)
  · exact g_sub [0, 1, 2, 3] ((bL_law_1271 hC hml hR hf sl sc hX rec ih ) _ _ _ _ _ hv1 hv2 hM) rfl
  · refine g_iconst (v := 0) hC dL_law_1187 rfl ic_0 ?_
    cases hM
    exact hR _ _ _ _ _ _ _ hf.1 hf.2 dL_law_1188
def BL_law_1189 (sl : Nat) (sc : Nat → Int32) (rec : Sto → Rho → Nat → Nat → Int32 → Option (Int32)) (σ : Sto) (ρ : Rho) (v1 : Nat) (v2 : Nat) (v3 : Int32) : Option (Int32) :=
  Option.bind (sg sl sc ((v3 + (1 : Int32)))) fun x1 =>
  Option.bind (MX11_freed σ ρ v1 x1) fun c2 =>
  Option.bind (sg sl sc ((v3 + (1 : Int32)))) fun x3 =>
  Option.bind (MX12_freed c2.2.1 c2.2.2 v2 x3) fun c4 =>
  if c2.1 = c4.1 then
    BL_law_1271 sl sc rec c4.2 c2.2.2 v1 v2 v3
  else
    some ((0 : Int32))
set_option maxHeartbeats 4000000 in
set_option maxRecDepth 100000 in
theorem bL_law_1189 {X : CX} {cs ss n : Nat} {res : Int32} (hC : Cx X cL_law RL 12) (hml : (xc X).maxLocals = 4) (hR : RtL X res) (hf : cs ≤ (xR X).cells ∧ ss ≤ (xR X).slots) {sb : Nat} (sl : Nat) (sc : Nat → Int32) (hX : SX X sb sl sc) (rec : Sto → Rho → Nat → Nat → Int32 → Option (Int32)) (ih : ∀ (σ : Sto) (ρ : Rho) (v1 : Nat) (v2 : Nat) (v3 : Int32) (hv1 : Sh n v1 10) (hv2 : Sh n v2 11), rec σ ρ v1 v2 v3 = some res → G X cs ss n σ ρ 18 [(0, .ref sb), (1, vr X v1), (2, vr X v2), (3, .int v3)] []) : ∀ (σ : Sto) (ρ : Rho) (v1 : Nat) (v2 : Nat) (v3 : Int32) (hv1 : Sh n v1 10) (hv2 : Sh n v2 11), BL_law_1189 sl sc rec σ ρ v1 v2 v3 = some res → G X cs ss n σ ρ 1189 [(0, .ref sb), (1, vr X v1), (2, vr X v2), (3, .int v3)] [] := by
  intro σ ρ v1 v2 v3 hv1 hv2 hM
  unfold BL_law_1189 at hM
  refine g_aload_n hC dL_law_1189 rfl 1 rfl ?_
  refine g_aload_n hC dL_law_1190 rfl 0 rfl ?_
  refine g_iload_n hC dL_law_1191 rfl 3 rfl ?_
  refine g_iconst (v := 1) hC dL_law_1192 rfl ic_1 ?_
  refine g_iadd hC dL_law_1193 rfl ?_
  refine g_sld hC hX dL_law_1194 rfl hM (fun x1 hM => ?_)
  refine g_callVi (As := [.int x1]) (st' := []) (k := v1) (L' := 6) hC Y_X11_freed I_X11_freed k_1042 ⟨by decide, by decide⟩ hv1 (ci := 10) (by decide) rfl dL_law_1195 rfl rfl rfl (Nat.le_of_ble_eq_true rfl) hf hM (fun c hc => c_X11_freed (xE X) v1 hv1 x1 c hc) (fun c2 hM => ?_)
  refine g_aload_n hC dL_law_1198 rfl 2 rfl ?_
  refine g_aload_n hC dL_law_1199 rfl 0 rfl ?_
  refine g_iload_n hC dL_law_1200 rfl 3 rfl ?_
  refine g_iconst (v := 1) hC dL_law_1201 rfl ic_1 ?_
  refine g_iadd hC dL_law_1202 rfl ?_
  refine g_sld hC hX dL_law_1203 rfl hM (fun x3 hM => ?_)
  refine g_callVi (As := [.int x3]) (st' := [.int c2.1]) (k := v2) (L' := 3) hC Y_X12_freed I_X12_freed k_1435 ⟨by decide, by decide⟩ hv2 (ci := 11) (by decide) rfl dL_law_1204 rfl rfl rfl (Nat.le_of_ble_eq_true rfl) hf hM (fun c hc => c_X12_freed (xE X) v2 hv2 x3 c hc) (fun c4 hM => ?_)
  refine g_icmp_eq (tgt := 1271) hC dL_law_1207 rfl (by decide) hM (fun hM => ?_) (fun hM => ?_)
  · exact g_sub [0, 1, 2, 3] ((bL_law_1271 hC hml hR hf sl sc hX rec ih ) _ _ _ _ _ hv1 hv2 hM) rfl
  · refine g_iconst (v := 0) hC dL_law_1210 rfl ic_0 ?_
    cases hM
    exact hR _ _ _ _ _ _ _ hf.1 hf.2 dL_law_1211
def BL_law_1212 (sl : Nat) (sc : Nat → Int32) (rec : Sto → Rho → Nat → Nat → Int32 → Option (Int32)) (σ : Sto) (ρ : Rho) (v1 : Nat) (v2 : Nat) (v3 : Int32) : Option (Int32) :=
  Option.bind (MX11_useful σ ρ v1) fun c1 =>
  Option.bind (MX12_useful c1.2.1 c1.2.2 v2) fun c2 =>
  if c1.1 = c2.1 then
    BL_law_1271 sl sc rec c2.2 c1.2.2 v1 v2 v3
  else
    some ((0 : Int32))
set_option maxHeartbeats 4000000 in
set_option maxRecDepth 100000 in
theorem bL_law_1212 {X : CX} {cs ss n : Nat} {res : Int32} (hC : Cx X cL_law RL 12) (hml : (xc X).maxLocals = 4) (hR : RtL X res) (hf : cs ≤ (xR X).cells ∧ ss ≤ (xR X).slots) {sb : Nat} (sl : Nat) (sc : Nat → Int32) (hX : SX X sb sl sc) (rec : Sto → Rho → Nat → Nat → Int32 → Option (Int32)) (ih : ∀ (σ : Sto) (ρ : Rho) (v1 : Nat) (v2 : Nat) (v3 : Int32) (hv1 : Sh n v1 10) (hv2 : Sh n v2 11), rec σ ρ v1 v2 v3 = some res → G X cs ss n σ ρ 18 [(0, .ref sb), (1, vr X v1), (2, vr X v2), (3, .int v3)] []) : ∀ (σ : Sto) (ρ : Rho) (v1 : Nat) (v2 : Nat) (v3 : Int32) (hv1 : Sh n v1 10) (hv2 : Sh n v2 11), BL_law_1212 sl sc rec σ ρ v1 v2 v3 = some res → G X cs ss n σ ρ 1212 [(0, .ref sb), (1, vr X v1), (2, vr X v2), (3, .int v3)] [] := by
  intro σ ρ v1 v2 v3 hv1 hv2 hM
  unfold BL_law_1212 at hM
  refine g_aload_n hC dL_law_1212 rfl 1 rfl ?_
  refine g_callVi (As := []) (st' := []) (k := v1) (L' := 6) hC Y_X11_useful I_X11_useful k_1050 ⟨by decide, by decide⟩ hv1 (ci := 10) (by decide) rfl dL_law_1213 rfl rfl rfl (Nat.le_of_ble_eq_true rfl) hf hM (fun c hc => c_X11_useful (xE X) v1 hv1 c hc) (fun c1 hM => ?_)
  refine g_aload_n hC dL_law_1216 rfl 2 rfl ?_
  refine g_callVi (As := []) (st' := [.int c1.1]) (k := v2) (L' := 3) hC Y_X12_useful I_X12_useful k_1439 ⟨by decide, by decide⟩ hv2 (ci := 11) (by decide) rfl dL_law_1217 rfl rfl rfl (Nat.le_of_ble_eq_true rfl) hf hM (fun c hc => c_X12_useful (xE X) v2 hv2 c hc) (fun c2 hM => ?_)
  refine g_icmp_eq (tgt := 1271) hC dL_law_1220 rfl (by decide) hM (fun hM => ?_) (fun hM => ?_)
  · exact g_sub [0, 1, 2, 3] ((bL_law_1271 hC hml hR hf sl sc hX rec ih ) _ _ _ _ _ hv1 hv2 hM) rfl
  · refine g_iconst (v := 0) hC dL_law_1223 rfl ic_0 ?_
    cases hM
    exact hR _ _ _ _ _ _ _ hf.1 hf.2 dL_law_1224
def BL_law_1225 (sl : Nat) (sc : Nat → Int32) (rec : Sto → Rho → Nat → Nat → Int32 → Option (Int32)) (σ : Sto) (ρ : Rho) (v1 : Nat) (v2 : Nat) (v3 : Int32) : Option (Int32) :=
  Option.bind (sg sl sc ((v3 + (1 : Int32)))) fun x1 =>
  Option.bind (MX11_image σ ρ v1 x1) fun c2 =>
  Option.bind (sg sl sc ((v3 + (1 : Int32)))) fun x3 =>
  Option.bind (MX12_image c2.2 ρ v2 x3) fun c4 =>
  if c2.1 = c4.1 then
    BL_law_1271 sl sc rec c4.2 ρ v1 v2 v3
  else
    some ((0 : Int32))
set_option maxHeartbeats 4000000 in
set_option maxRecDepth 100000 in
theorem bL_law_1225 {X : CX} {cs ss n : Nat} {res : Int32} (hC : Cx X cL_law RL 12) (hml : (xc X).maxLocals = 4) (hR : RtL X res) (hf : cs ≤ (xR X).cells ∧ ss ≤ (xR X).slots) {sb : Nat} (sl : Nat) (sc : Nat → Int32) (hX : SX X sb sl sc) (rec : Sto → Rho → Nat → Nat → Int32 → Option (Int32)) (ih : ∀ (σ : Sto) (ρ : Rho) (v1 : Nat) (v2 : Nat) (v3 : Int32) (hv1 : Sh n v1 10) (hv2 : Sh n v2 11), rec σ ρ v1 v2 v3 = some res → G X cs ss n σ ρ 18 [(0, .ref sb), (1, vr X v1), (2, vr X v2), (3, .int v3)] []) : ∀ (σ : Sto) (ρ : Rho) (v1 : Nat) (v2 : Nat) (v3 : Int32) (hv1 : Sh n v1 10) (hv2 : Sh n v2 11), BL_law_1225 sl sc rec σ ρ v1 v2 v3 = some res → G X cs ss n σ ρ 1225 [(0, .ref sb), (1, vr X v1), (2, vr X v2), (3, .int v3)] [] := by
  intro σ ρ v1 v2 v3 hv1 hv2 hM
  unfold BL_law_1225 at hM
  refine g_aload_n hC dL_law_1225 rfl 1 rfl ?_
  refine g_aload_n hC dL_law_1226 rfl 0 rfl ?_
  refine g_iload_n hC dL_law_1227 rfl 3 rfl ?_
  refine g_iconst (v := 1) hC dL_law_1228 rfl ic_1 ?_
  refine g_iadd hC dL_law_1229 rfl ?_
  refine g_sld hC hX dL_law_1230 rfl hM (fun x1 hM => ?_)
  refine g_callVi (As := [.int x1]) (st' := []) (k := v1) (L' := 3) hC Y_X11_image I_X11_image k_1054 ⟨by decide, by decide⟩ hv1 (ci := 10) (by decide) rfl dL_law_1231 rfl rfl rfl (Nat.le_of_ble_eq_true rfl) hf hM (fun c hc => c_X11_image (xE X) v1 hv1 x1 c hc) (fun c2 hM => ?_)
  refine g_aload_n hC dL_law_1234 rfl 2 rfl ?_
  refine g_aload_n hC dL_law_1235 rfl 0 rfl ?_
  refine g_iload_n hC dL_law_1236 rfl 3 rfl ?_
  refine g_iconst (v := 1) hC dL_law_1237 rfl ic_1 ?_
  refine g_iadd hC dL_law_1238 rfl ?_
  refine g_sld hC hX dL_law_1239 rfl hM (fun x3 hM => ?_)
  refine g_callVi (As := [.int x3]) (st' := [.int c2.1]) (k := v2) (L' := 1) hC Y_X12_image I_X12_image k_1526 ⟨by decide, by decide⟩ hv2 (ci := 11) (by decide) rfl dL_law_1240 rfl rfl rfl (Nat.le_of_ble_eq_true rfl) hf hM (fun c hc => c_X12_image (xE X) v2 hv2 x3 c hc) (fun c4 hM => ?_)
  refine g_icmp_eq (tgt := 1271) hC dL_law_1243 rfl (by decide) hM (fun hM => ?_) (fun hM => ?_)
  · exact g_sub [0, 1, 2, 3] ((bL_law_1271 hC hml hR hf sl sc hX rec ih ) _ _ _ _ _ hv1 hv2 hM) rfl
  · refine g_iconst (v := 0) hC dL_law_1246 rfl ic_0 ?_
    cases hM
    exact hR _ _ _ _ _ _ _ hf.1 hf.2 dL_law_1247
def BL_law_1248 (sl : Nat) (sc : Nat → Int32) (rec : Sto → Rho → Nat → Nat → Int32 → Option (Int32)) (σ : Sto) (ρ : Rho) (v1 : Nat) (v2 : Nat) (v3 : Int32) : Option (Int32) :=
  Option.bind (sg sl sc ((v3 + (1 : Int32)))) fun x1 =>
  Option.bind (MX11_again σ ρ v1 x1) fun c2 =>
  Option.bind (sg sl sc ((v3 + (1 : Int32)))) fun x3 =>
  Option.bind (MX12_again c2.2 ρ v2 x3) fun c4 =>
  if c2.1 = c4.1 then
    BL_law_1271 sl sc rec c4.2 ρ v1 v2 v3
  else
    some ((0 : Int32))
set_option maxHeartbeats 4000000 in
set_option maxRecDepth 100000 in
theorem bL_law_1248 {X : CX} {cs ss n : Nat} {res : Int32} (hC : Cx X cL_law RL 12) (hml : (xc X).maxLocals = 4) (hR : RtL X res) (hf : cs ≤ (xR X).cells ∧ ss ≤ (xR X).slots) {sb : Nat} (sl : Nat) (sc : Nat → Int32) (hX : SX X sb sl sc) (rec : Sto → Rho → Nat → Nat → Int32 → Option (Int32)) (ih : ∀ (σ : Sto) (ρ : Rho) (v1 : Nat) (v2 : Nat) (v3 : Int32) (hv1 : Sh n v1 10) (hv2 : Sh n v2 11), rec σ ρ v1 v2 v3 = some res → G X cs ss n σ ρ 18 [(0, .ref sb), (1, vr X v1), (2, vr X v2), (3, .int v3)] []) : ∀ (σ : Sto) (ρ : Rho) (v1 : Nat) (v2 : Nat) (v3 : Int32) (hv1 : Sh n v1 10) (hv2 : Sh n v2 11), BL_law_1248 sl sc rec σ ρ v1 v2 v3 = some res → G X cs ss n σ ρ 1248 [(0, .ref sb), (1, vr X v1), (2, vr X v2), (3, .int v3)] [] := by
  intro σ ρ v1 v2 v3 hv1 hv2 hM
  unfold BL_law_1248 at hM
  refine g_aload_n hC dL_law_1248 rfl 1 rfl ?_
  refine g_aload_n hC dL_law_1249 rfl 0 rfl ?_
  refine g_iload_n hC dL_law_1250 rfl 3 rfl ?_
  refine g_iconst (v := 1) hC dL_law_1251 rfl ic_1 ?_
  refine g_iadd hC dL_law_1252 rfl ?_
  refine g_sld hC hX dL_law_1253 rfl hM (fun x1 hM => ?_)
  refine g_callVi (As := [.int x1]) (st' := []) (k := v1) (L' := 3) hC Y_X11_again I_X11_again k_1068 ⟨by decide, by decide⟩ hv1 (ci := 10) (by decide) rfl dL_law_1254 rfl rfl rfl (Nat.le_of_ble_eq_true rfl) hf hM (fun c hc => c_X11_again (xE X) v1 hv1 x1 c hc) (fun c2 hM => ?_)
  refine g_aload_n hC dL_law_1257 rfl 2 rfl ?_
  refine g_aload_n hC dL_law_1258 rfl 0 rfl ?_
  refine g_iload_n hC dL_law_1259 rfl 3 rfl ?_
  refine g_iconst (v := 1) hC dL_law_1260 rfl ic_1 ?_
  refine g_iadd hC dL_law_1261 rfl ?_
  refine g_sld hC hX dL_law_1262 rfl hM (fun x3 hM => ?_)
  refine g_callVi (As := [.int x3]) (st' := [.int c2.1]) (k := v2) (L' := 1) hC Y_X12_again I_X12_again k_1530 ⟨by decide, by decide⟩ hv2 (ci := 11) (by decide) rfl dL_law_1263 rfl rfl rfl (Nat.le_of_ble_eq_true rfl) hf hM (fun c hc => c_X12_again (xE X) v2 hv2 x3 c hc) (fun c4 hM => ?_)
  refine g_icmp_eq (tgt := 1271) hC dL_law_1266 rfl (by decide) hM (fun hM => ?_) (fun hM => ?_)
  · exact g_sub [0, 1, 2, 3] ((bL_law_1271 hC hml hR hf sl sc hX rec ih ) _ _ _ _ _ hv1 hv2 hM) rfl
  · refine g_iconst (v := 0) hC dL_law_1269 rfl ic_0 ?_
    cases hM
    exact hR _ _ _ _ _ _ _ hf.1 hf.2 dL_law_1270
def FL_law_18 (sl : Nat) (sc : Nat → Int32) (rec : Sto → Rho → Nat → Nat → Int32 → Option (Int32)) (σ : Sto) (ρ : Rho) (v1 : Nat) (v2 : Nat) (v3 : Int32) : Option (Int32) :=
  if ((Int32.ofNat sl) - (6 : Int32)) < v3 then
    some ((1 : Int32))
  else
    Option.bind (sg sl sc v3) fun x1 =>
    if (x1 &&& (63 : Int32)) = (0 : Int32) then
      BL_law_180 sl sc rec σ ρ v1 v2 v3
    else
    if (x1 &&& (63 : Int32)) = (1 : Int32) then
      BL_law_243 sl sc rec σ ρ v1 v2 v3
    else
    if (x1 &&& (63 : Int32)) = (2 : Int32) then
      BL_law_266 sl sc rec σ ρ v1 v2 v3
    else
    if (x1 &&& (63 : Int32)) = (3 : Int32) then
      BL_law_279 sl sc rec σ ρ v1 v2 v3
    else
    if (x1 &&& (63 : Int32)) = (4 : Int32) then
      BL_law_302 sl sc rec σ ρ v1 v2 v3
    else
    if (x1 &&& (63 : Int32)) = (5 : Int32) then
      BL_law_325 sl sc rec σ ρ v1 v2 v3
    else
    if (x1 &&& (63 : Int32)) = (6 : Int32) then
      BL_law_368 sl sc rec σ ρ v1 v2 v3
    else
    if (x1 &&& (63 : Int32)) = (7 : Int32) then
      BL_law_431 sl sc rec σ ρ v1 v2 v3
    else
    if (x1 &&& (63 : Int32)) = (8 : Int32) then
      BL_law_464 sl sc rec σ ρ v1 v2 v3
    else
    if (x1 &&& (63 : Int32)) = (9 : Int32) then
      BL_law_497 sl sc rec σ ρ v1 v2 v3
    else
    if (x1 &&& (63 : Int32)) = (10 : Int32) then
      BL_law_520 sl sc rec σ ρ v1 v2 v3
    else
    if (x1 &&& (63 : Int32)) = (11 : Int32) then
      BL_law_569 sl sc rec σ ρ v1 v2 v3
    else
    if (x1 &&& (63 : Int32)) = (12 : Int32) then
      BL_law_592 sl sc rec σ ρ v1 v2 v3
    else
    if (x1 &&& (63 : Int32)) = (13 : Int32) then
      BL_law_605 sl sc rec σ ρ v1 v2 v3
    else
    if (x1 &&& (63 : Int32)) = (14 : Int32) then
      BL_law_628 sl sc rec σ ρ v1 v2 v3
    else
    if (x1 &&& (63 : Int32)) = (15 : Int32) then
      BL_law_661 sl sc rec σ ρ v1 v2 v3
    else
    if (x1 &&& (63 : Int32)) = (16 : Int32) then
      BL_law_694 sl sc rec σ ρ v1 v2 v3
    else
    if (x1 &&& (63 : Int32)) = (17 : Int32) then
      BL_law_737 sl sc rec σ ρ v1 v2 v3
    else
    if (x1 &&& (63 : Int32)) = (18 : Int32) then
      BL_law_770 sl sc rec σ ρ v1 v2 v3
    else
    if (x1 &&& (63 : Int32)) = (19 : Int32) then
      BL_law_793 sl sc rec σ ρ v1 v2 v3
    else
    if (x1 &&& (63 : Int32)) = (20 : Int32) then
      BL_law_826 sl sc rec σ ρ v1 v2 v3
    else
    if (x1 &&& (63 : Int32)) = (21 : Int32) then
      BL_law_885 sl sc rec σ ρ v1 v2 v3
    else
    if (x1 &&& (63 : Int32)) = (22 : Int32) then
      BL_law_918 sl sc rec σ ρ v1 v2 v3
    else
    if (x1 &&& (63 : Int32)) = (23 : Int32) then
      BL_law_951 sl sc rec σ ρ v1 v2 v3
    else
    if (x1 &&& (63 : Int32)) = (24 : Int32) then
      BL_law_984 sl sc rec σ ρ v1 v2 v3
    else
    if (x1 &&& (63 : Int32)) = (25 : Int32) then
      BL_law_1027 sl sc rec σ ρ v1 v2 v3
    else
    if (x1 &&& (63 : Int32)) = (26 : Int32) then
      BL_law_1070 sl sc rec σ ρ v1 v2 v3
    else
    if (x1 &&& (63 : Int32)) = (27 : Int32) then
      BL_law_1123 sl sc rec σ ρ v1 v2 v3
    else
    if (x1 &&& (63 : Int32)) = (28 : Int32) then
      BL_law_1166 sl sc rec σ ρ v1 v2 v3
    else
    if (x1 &&& (63 : Int32)) = (29 : Int32) then
      BL_law_1189 sl sc rec σ ρ v1 v2 v3
    else
    if (x1 &&& (63 : Int32)) = (30 : Int32) then
      BL_law_1212 sl sc rec σ ρ v1 v2 v3
    else
    if (x1 &&& (63 : Int32)) = (31 : Int32) then
      BL_law_1225 sl sc rec σ ρ v1 v2 v3
    else
    if (x1 &&& (63 : Int32)) = (32 : Int32) then
      BL_law_1248 sl sc rec σ ρ v1 v2 v3
    else
    BL_law_1271 sl sc rec σ ρ v1 v2 v3
set_option maxHeartbeats 4000000 in
set_option maxRecDepth 100000 in
theorem bL_law_18 {X : CX} {cs ss n : Nat} {res : Int32} (hC : Cx X cL_law RL 12) (hml : (xc X).maxLocals = 4) (hR : RtL X res) (hf : cs ≤ (xR X).cells ∧ ss ≤ (xR X).slots) {sb : Nat} (sl : Nat) (sc : Nat → Int32) (hX : SX X sb sl sc) (fu : Nat) : ∀ (σ : Sto) (ρ : Rho) (v1 : Nat) (v2 : Nat) (v3 : Int32) (hv1 : Sh n v1 10) (hv2 : Sh n v2 11), fixN (fun _ _ _ _ _ => none) (FL_law_18 sl sc) fu σ ρ v1 v2 v3 = some res → G X cs ss n σ ρ 18 [(0, .ref sb), (1, vr X v1), (2, vr X v2), (3, .int v3)] [] := by
  refine fixN_ind (P := fun (f : Sto → Rho → Nat → Nat → Int32 → Option (Int32)) => ∀ (σ : Sto) (ρ : Rho) (v1 : Nat) (v2 : Nat) (v3 : Int32) (hv1 : Sh n v1 10) (hv2 : Sh n v2 11), f σ ρ v1 v2 v3 = some res → G X cs ss n σ ρ 18 [(0, .ref sb), (1, vr X v1), (2, vr X v2), (3, .int v3)] []) ?_ ?_ fu
  · intro σ ρ v1 v2 v3 hv1 hv2 hM; cases hM
  · intro rec ih σ ρ v1 v2 v3 hv1 hv2 hM
    unfold FL_law_18 at hM
    refine g_iload_n hC dL_law_18 rfl 3 rfl ?_
    refine g_aload_n hC dL_law_19 rfl 0 rfl ?_
    refine g_slen hC hX dL_law_20 rfl ?_
    refine g_bipush (v := 6) hC dL_law_21 rfl ib_6 ?_
    refine g_isub hC dL_law_23 rfl ?_
    refine g_icmp_gt (tgt := 1277) hC dL_law_24 rfl (by decide) hM (fun hM => ?_) (fun hM => ?_)
    · refine g_iconst (v := 1) hC dL_law_1277 rfl ic_1 ?_
      cases hM
      exact hR _ _ _ _ _ _ _ hf.1 hf.2 dL_law_1278
    · refine g_aload_n hC dL_law_27 rfl 0 rfl ?_
      refine g_iload_n hC dL_law_28 rfl 3 rfl ?_
      refine g_sld hC hX dL_law_29 rfl hM (fun x1 hM => ?_)
      refine g_bipush (v := 63) hC dL_law_30 rfl ib_63 ?_
      refine g_iand hC dL_law_32 rfl ?_
      refine g_ite hM (fun hx0 hM => ?_) (fun hx0 hM => ?_)
      · refine g_tswK (tgt := 180) hC dL_law_33 rfl hx0 (z := 0) (by decide) (by decide) (by decide) rfl (by decide) ?_
        exact g_sub [0, 1, 2, 3] ((bL_law_180 hC hml hR hf sl sc hX rec ih ) _ _ _ _ _ hv1 hv2 hM) rfl
      refine g_ite hM (fun hx1 hM => ?_) (fun hx1 hM => ?_)
      · refine g_tswK (tgt := 243) hC dL_law_33 rfl hx1 (z := 1) (by decide) (by decide) (by decide) rfl (by decide) ?_
        exact g_sub [0, 1, 2, 3] ((bL_law_243 hC hml hR hf sl sc hX rec ih ) _ _ _ _ _ hv1 hv2 hM) rfl
      refine g_ite hM (fun hx2 hM => ?_) (fun hx2 hM => ?_)
      · refine g_tswK (tgt := 266) hC dL_law_33 rfl hx2 (z := 2) (by decide) (by decide) (by decide) rfl (by decide) ?_
        exact g_sub [0, 1, 2, 3] ((bL_law_266 hC hml hR hf sl sc hX rec ih ) _ _ _ _ _ hv1 hv2 hM) rfl
      refine g_ite hM (fun hx3 hM => ?_) (fun hx3 hM => ?_)
      · refine g_tswK (tgt := 279) hC dL_law_33 rfl hx3 (z := 3) (by decide) (by decide) (by decide) rfl (by decide) ?_
        exact g_sub [0, 1, 2, 3] ((bL_law_279 hC hml hR hf sl sc hX rec ih ) _ _ _ _ _ hv1 hv2 hM) rfl
      refine g_ite hM (fun hx4 hM => ?_) (fun hx4 hM => ?_)
      · refine g_tswK (tgt := 302) hC dL_law_33 rfl hx4 (z := 4) (by decide) (by decide) (by decide) rfl (by decide) ?_
        exact g_sub [0, 1, 2, 3] ((bL_law_302 hC hml hR hf sl sc hX rec ih ) _ _ _ _ _ hv1 hv2 hM) rfl
      refine g_ite hM (fun hx5 hM => ?_) (fun hx5 hM => ?_)
      · refine g_tswK (tgt := 325) hC dL_law_33 rfl hx5 (z := 5) (by decide) (by decide) (by decide) rfl (by decide) ?_
        exact g_sub [0, 1, 2, 3] ((bL_law_325 hC hml hR hf sl sc hX rec ih ) _ _ _ _ _ hv1 hv2 hM) rfl
      refine g_ite hM (fun hx6 hM => ?_) (fun hx6 hM => ?_)
      · refine g_tswK (tgt := 368) hC dL_law_33 rfl hx6 (z := 6) (by decide) (by decide) (by decide) rfl (by decide) ?_
        exact g_sub [0, 1, 2, 3] ((bL_law_368 hC hml hR hf sl sc hX rec ih ) _ _ _ _ _ hv1 hv2 hM) rfl
      refine g_ite hM (fun hx7 hM => ?_) (fun hx7 hM => ?_)
      · refine g_tswK (tgt := 431) hC dL_law_33 rfl hx7 (z := 7) (by decide) (by decide) (by decide) rfl (by decide) ?_
        exact g_sub [0, 1, 2, 3] ((bL_law_431 hC hml hR hf sl sc hX rec ih ) _ _ _ _ _ hv1 hv2 hM) rfl
      refine g_ite hM (fun hx8 hM => ?_) (fun hx8 hM => ?_)
      · refine g_tswK (tgt := 464) hC dL_law_33 rfl hx8 (z := 8) (by decide) (by decide) (by decide) rfl (by decide) ?_
        exact g_sub [0, 1, 2, 3] ((bL_law_464 hC hml hR hf sl sc hX rec ih ) _ _ _ _ _ hv1 hv2 hM) rfl
      refine g_ite hM (fun hx9 hM => ?_) (fun hx9 hM => ?_)
      · refine g_tswK (tgt := 497) hC dL_law_33 rfl hx9 (z := 9) (by decide) (by decide) (by decide) rfl (by decide) ?_
        exact g_sub [0, 1, 2, 3] ((bL_law_497 hC hml hR hf sl sc hX rec ih ) _ _ _ _ _ hv1 hv2 hM) rfl
      refine g_ite hM (fun hx10 hM => ?_) (fun hx10 hM => ?_)
      · refine g_tswK (tgt := 520) hC dL_law_33 rfl hx10 (z := 10) (by decide) (by decide) (by decide) rfl (by decide) ?_
        exact g_sub [0, 1, 2, 3] ((bL_law_520 hC hml hR hf sl sc hX rec ih ) _ _ _ _ _ hv1 hv2 hM) rfl
      refine g_ite hM (fun hx11 hM => ?_) (fun hx11 hM => ?_)
      · refine g_tswK (tgt := 569) hC dL_law_33 rfl hx11 (z := 11) (by decide) (by decide) (by decide) rfl (by decide) ?_
        exact g_sub [0, 1, 2, 3] ((bL_law_569 hC hml hR hf sl sc hX rec ih ) _ _ _ _ _ hv1 hv2 hM) rfl
      refine g_ite hM (fun hx12 hM => ?_) (fun hx12 hM => ?_)
      · refine g_tswK (tgt := 592) hC dL_law_33 rfl hx12 (z := 12) (by decide) (by decide) (by decide) rfl (by decide) ?_
        exact g_sub [0, 1, 2, 3] ((bL_law_592 hC hml hR hf sl sc hX rec ih ) _ _ _ _ _ hv1 hv2 hM) rfl
      refine g_ite hM (fun hx13 hM => ?_) (fun hx13 hM => ?_)
      · refine g_tswK (tgt := 605) hC dL_law_33 rfl hx13 (z := 13) (by decide) (by decide) (by decide) rfl (by decide) ?_
        exact g_sub [0, 1, 2, 3] ((bL_law_605 hC hml hR hf sl sc hX rec ih ) _ _ _ _ _ hv1 hv2 hM) rfl
      refine g_ite hM (fun hx14 hM => ?_) (fun hx14 hM => ?_)
      · refine g_tswK (tgt := 628) hC dL_law_33 rfl hx14 (z := 14) (by decide) (by decide) (by decide) rfl (by decide) ?_
        exact g_sub [0, 1, 2, 3] ((bL_law_628 hC hml hR hf sl sc hX rec ih ) _ _ _ _ _ hv1 hv2 hM) rfl
      refine g_ite hM (fun hx15 hM => ?_) (fun hx15 hM => ?_)
      · refine g_tswK (tgt := 661) hC dL_law_33 rfl hx15 (z := 15) (by decide) (by decide) (by decide) rfl (by decide) ?_
        exact g_sub [0, 1, 2, 3] ((bL_law_661 hC hml hR hf sl sc hX rec ih ) _ _ _ _ _ hv1 hv2 hM) rfl
      refine g_ite hM (fun hx16 hM => ?_) (fun hx16 hM => ?_)
      · refine g_tswK (tgt := 694) hC dL_law_33 rfl hx16 (z := 16) (by decide) (by decide) (by decide) rfl (by decide) ?_
        exact g_sub [0, 1, 2, 3] ((bL_law_694 hC hml hR hf sl sc hX rec ih ) _ _ _ _ _ hv1 hv2 hM) rfl
      refine g_ite hM (fun hx17 hM => ?_) (fun hx17 hM => ?_)
      · refine g_tswK (tgt := 737) hC dL_law_33 rfl hx17 (z := 17) (by decide) (by decide) (by decide) rfl (by decide) ?_
        exact g_sub [0, 1, 2, 3] ((bL_law_737 hC hml hR hf sl sc hX rec ih ) _ _ _ _ _ hv1 hv2 hM) rfl
      refine g_ite hM (fun hx18 hM => ?_) (fun hx18 hM => ?_)
      · refine g_tswK (tgt := 770) hC dL_law_33 rfl hx18 (z := 18) (by decide) (by decide) (by decide) rfl (by decide) ?_
        exact g_sub [0, 1, 2, 3] ((bL_law_770 hC hml hR hf sl sc hX rec ih ) _ _ _ _ _ hv1 hv2 hM) rfl
      refine g_ite hM (fun hx19 hM => ?_) (fun hx19 hM => ?_)
      · refine g_tswK (tgt := 793) hC dL_law_33 rfl hx19 (z := 19) (by decide) (by decide) (by decide) rfl (by decide) ?_
        exact g_sub [0, 1, 2, 3] ((bL_law_793 hC hml hR hf sl sc hX rec ih ) _ _ _ _ _ hv1 hv2 hM) rfl
      refine g_ite hM (fun hx20 hM => ?_) (fun hx20 hM => ?_)
      · refine g_tswK (tgt := 826) hC dL_law_33 rfl hx20 (z := 20) (by decide) (by decide) (by decide) rfl (by decide) ?_
        exact g_sub [0, 1, 2, 3] ((bL_law_826 hC hml hR hf sl sc hX rec ih ) _ _ _ _ _ hv1 hv2 hM) rfl
      refine g_ite hM (fun hx21 hM => ?_) (fun hx21 hM => ?_)
      · refine g_tswK (tgt := 885) hC dL_law_33 rfl hx21 (z := 21) (by decide) (by decide) (by decide) rfl (by decide) ?_
        exact g_sub [0, 1, 2, 3] ((bL_law_885 hC hml hR hf sl sc hX rec ih ) _ _ _ _ _ hv1 hv2 hM) rfl
      refine g_ite hM (fun hx22 hM => ?_) (fun hx22 hM => ?_)
      · refine g_tswK (tgt := 918) hC dL_law_33 rfl hx22 (z := 22) (by decide) (by decide) (by decide) rfl (by decide) ?_
        exact g_sub [0, 1, 2, 3] ((bL_law_918 hC hml hR hf sl sc hX rec ih ) _ _ _ _ _ hv1 hv2 hM) rfl
      refine g_ite hM (fun hx23 hM => ?_) (fun hx23 hM => ?_)
      · refine g_tswK (tgt := 951) hC dL_law_33 rfl hx23 (z := 23) (by decide) (by decide) (by decide) rfl (by decide) ?_
        exact g_sub [0, 1, 2, 3] ((bL_law_951 hC hml hR hf sl sc hX rec ih ) _ _ _ _ _ hv1 hv2 hM) rfl
      refine g_ite hM (fun hx24 hM => ?_) (fun hx24 hM => ?_)
      · refine g_tswK (tgt := 984) hC dL_law_33 rfl hx24 (z := 24) (by decide) (by decide) (by decide) rfl (by decide) ?_
        exact g_sub [0, 1, 2, 3] ((bL_law_984 hC hml hR hf sl sc hX rec ih ) _ _ _ _ _ hv1 hv2 hM) rfl
      refine g_ite hM (fun hx25 hM => ?_) (fun hx25 hM => ?_)
      · refine g_tswK (tgt := 1027) hC dL_law_33 rfl hx25 (z := 25) (by decide) (by decide) (by decide) rfl (by decide) ?_
        exact g_sub [0, 1, 2, 3] ((bL_law_1027 hC hml hR hf sl sc hX rec ih ) _ _ _ _ _ hv1 hv2 hM) rfl
      refine g_ite hM (fun hx26 hM => ?_) (fun hx26 hM => ?_)
      · refine g_tswK (tgt := 1070) hC dL_law_33 rfl hx26 (z := 26) (by decide) (by decide) (by decide) rfl (by decide) ?_
        exact g_sub [0, 1, 2, 3] ((bL_law_1070 hC hml hR hf sl sc hX rec ih ) _ _ _ _ _ hv1 hv2 hM) rfl
      refine g_ite hM (fun hx27 hM => ?_) (fun hx27 hM => ?_)
      · refine g_tswK (tgt := 1123) hC dL_law_33 rfl hx27 (z := 27) (by decide) (by decide) (by decide) rfl (by decide) ?_
        exact g_sub [0, 1, 2, 3] ((bL_law_1123 hC hml hR hf sl sc hX rec ih ) _ _ _ _ _ hv1 hv2 hM) rfl
      refine g_ite hM (fun hx28 hM => ?_) (fun hx28 hM => ?_)
      · refine g_tswK (tgt := 1166) hC dL_law_33 rfl hx28 (z := 28) (by decide) (by decide) (by decide) rfl (by decide) ?_
        exact g_sub [0, 1, 2, 3] ((bL_law_1166 hC hml hR hf sl sc hX rec ih ) _ _ _ _ _ hv1 hv2 hM) rfl
      refine g_ite hM (fun hx29 hM => ?_) (fun hx29 hM => ?_)
      · refine g_tswK (tgt := 1189) hC dL_law_33 rfl hx29 (z := 29) (by decide) (by decide) (by decide) rfl (by decide) ?_
        exact g_sub [0, 1, 2, 3] ((bL_law_1189 hC hml hR hf sl sc hX rec ih ) _ _ _ _ _ hv1 hv2 hM) rfl
      refine g_ite hM (fun hx30 hM => ?_) (fun hx30 hM => ?_)
      · refine g_tswK (tgt := 1212) hC dL_law_33 rfl hx30 (z := 30) (by decide) (by decide) (by decide) rfl (by decide) ?_
        exact g_sub [0, 1, 2, 3] ((bL_law_1212 hC hml hR hf sl sc hX rec ih ) _ _ _ _ _ hv1 hv2 hM) rfl
      refine g_ite hM (fun hx31 hM => ?_) (fun hx31 hM => ?_)
      · refine g_tswK (tgt := 1225) hC dL_law_33 rfl hx31 (z := 31) (by decide) (by decide) (by decide) rfl (by decide) ?_
        exact g_sub [0, 1, 2, 3] ((bL_law_1225 hC hml hR hf sl sc hX rec ih ) _ _ _ _ _ hv1 hv2 hM) rfl
      refine g_ite hM (fun hx32 hM => ?_) (fun hx32 hM => ?_)
      · refine g_tswK (tgt := 1248) hC dL_law_33 rfl hx32 (z := 32) (by decide) (by decide) (by decide) rfl (by decide) ?_
        exact g_sub [0, 1, 2, 3] ((bL_law_1248 hC hml hR hf sl sc hX rec ih ) _ _ _ _ _ hv1 hv2 hM) rfl
      replace hx0 := lv_neT hx0 (a := 0) (by decide)
      replace hx1 := lv_neT hx1 (a := 1) (by decide)
      replace hx2 := lv_neT hx2 (a := 2) (by decide)
      replace hx3 := lv_neT hx3 (a := 3) (by decide)
      replace hx4 := lv_neT hx4 (a := 4) (by decide)
      replace hx5 := lv_neT hx5 (a := 5) (by decide)
      replace hx6 := lv_neT hx6 (a := 6) (by decide)
      replace hx7 := lv_neT hx7 (a := 7) (by decide)
      replace hx8 := lv_neT hx8 (a := 8) (by decide)
      replace hx9 := lv_neT hx9 (a := 9) (by decide)
      replace hx10 := lv_neT hx10 (a := 10) (by decide)
      replace hx11 := lv_neT hx11 (a := 11) (by decide)
      replace hx12 := lv_neT hx12 (a := 12) (by decide)
      replace hx13 := lv_neT hx13 (a := 13) (by decide)
      replace hx14 := lv_neT hx14 (a := 14) (by decide)
      replace hx15 := lv_neT hx15 (a := 15) (by decide)
      replace hx16 := lv_neT hx16 (a := 16) (by decide)
      replace hx17 := lv_neT hx17 (a := 17) (by decide)
      replace hx18 := lv_neT hx18 (a := 18) (by decide)
      replace hx19 := lv_neT hx19 (a := 19) (by decide)
      replace hx20 := lv_neT hx20 (a := 20) (by decide)
      replace hx21 := lv_neT hx21 (a := 21) (by decide)
      replace hx22 := lv_neT hx22 (a := 22) (by decide)
      replace hx23 := lv_neT hx23 (a := 23) (by decide)
      replace hx24 := lv_neT hx24 (a := 24) (by decide)
      replace hx25 := lv_neT hx25 (a := 25) (by decide)
      replace hx26 := lv_neT hx26 (a := 26) (by decide)
      replace hx27 := lv_neT hx27 (a := 27) (by decide)
      replace hx28 := lv_neT hx28 (a := 28) (by decide)
      replace hx29 := lv_neT hx29 (a := 29) (by decide)
      replace hx30 := lv_neT hx30 (a := 30) (by decide)
      replace hx31 := lv_neT hx31 (a := 31) (by decide)
      replace hx32 := lv_neT hx32 (a := 32) (by decide)
      refine g_tswD (tgt := 1271) hC dL_law_33 rfl (by omega) (by decide) ?_
      exact g_sub [0, 1, 2, 3] ((bL_law_1271 hC hml hR hf sl sc hX rec ih ) _ _ _ _ _ hv1 hv2 hM) rfl
def ML_law (n : Nat) (σ : Sto) (ρ : Rho) (sl : Nat) (sc : Nat → Int32) : Option (Int32) :=
  nw 10 n σ ρ fun σ1 ρ2 =>
  Option.bind (MX11_init (n + 1) σ1 ρ2 n) fun c4 =>
  nw 11 (n + 92) c4.1 c4.2 fun σ5 ρ6 =>
  Option.bind (MX12_init (n + 93) σ5 ρ6 (n + 92)) fun c8 =>
  bn ((0 : Int32)) fun y9 =>
  fixN (fun _ _ _ _ _ => none) (FL_law_18 sl sc) FU c8.1 c8.2 n ((n + 92)) y9
set_option maxHeartbeats 4000000 in
set_option maxRecDepth 100000 in
theorem b_law {X : CX} {n : Nat} {σ : Sto} {ρ : Rho} {res : Int32} (hC : Cx X cL_law RL 12) (hml : (xc X).maxLocals = 4) (hRm : (xR X).cells = 600000 ∧ (xR X).slots = 7302250) (hR : RtL X res) {sb : Nat} (sl : Nat) (sc : Nat → Int32) (hX : SX X sb sl sc) (hM : ML_law n σ ρ sl sc = some res) : G X 0 0 n σ ρ 0 [(0, .ref sb)] [] := by
  have hf : (100 : Nat) ≤ (xR X).cells ∧ (5541 : Nat) ≤ (xR X).slots := ⟨by rw [hRm.1]; exact (Nat.le_of_ble_eq_true rfl), by rw [hRm.2]; exact (Nat.le_of_ble_eq_true rfl)⟩
  unfold ML_law at hM
  refine g_new (ci := 10) (N := 14) (T := TX11) (ty := tyX11) hC (by decide) rfl rfl iX11 tyX11_ok dfX11 k_111 k_112 k_92 ⟨by rw [hRm.1]; exact (Nat.le_of_ble_eq_true rfl), by rw [hRm.2]; exact (Nat.le_of_ble_eq_true rfl)⟩ dL_law_0 rfl hM (fun σ1 ρ2 hq3 hM => ?_)
  refine g_dup hC dL_law_3 rfl rfl ?_
  refine g_callIv (As := []) (st' := [vr X n]) (k := n) (mc := 91) (ms := 2823) (L' := 4) hC Y_X11_init ⟨rfl, k_114⟩ k_113 ⟨by decide, by decide⟩ dL_law_4 rfl rfl rfl (Nat.le_of_ble_eq_true rfl) ⟨by rw [hRm.1]; exact (Nat.le_of_ble_eq_true rfl), by rw [hRm.2]; exact (Nat.le_of_ble_eq_true rfl)⟩ hM (fun c hc => c_X11_init (xE X) n hq3 c hc) (fun c4 hM => ?_)
  have hq3 := sh_upm (m := 91) hq3
  refine g_astore_n (lv' := [(1, vr X n), (0, .ref sb)]) hC dL_law_7 rfl hml (by decide) rfl ?_
  refine g_new (ci := 11) (N := 20) (T := TX12) (ty := tyX12) hC (by decide) rfl rfl iX12 tyX12_ok dfX12 k_1072 k_1073 k_103 ⟨by rw [hRm.1]; exact (Nat.le_of_ble_eq_true rfl), by rw [hRm.2]; exact (Nat.le_of_ble_eq_true rfl)⟩ dL_law_8 rfl hM (fun σ5 ρ6 hq7 hM => ?_)
  have hq3 := sh_up hq3
  refine g_dup hC dL_law_11 rfl rfl ?_
  refine g_callIv (As := []) (st' := [vr X ((n + 92))]) (k := (n + 92)) (mc := 7) (ms := 2684) (L' := 1) hC Y_X12_init ⟨rfl, k_1075⟩ k_1074 ⟨by decide, by decide⟩ dL_law_12 rfl rfl rfl (Nat.le_of_ble_eq_true rfl) ⟨by rw [hRm.1]; exact (Nat.le_of_ble_eq_true rfl), by rw [hRm.2]; exact (Nat.le_of_ble_eq_true rfl)⟩ hM (fun c hc => c_X12_init (xE X) (n + 92) hq7 c hc) (fun c8 hM => ?_)
  have hq3 := sh_upm (m := 7) hq3
  have hq7 := sh_upm (m := 7) hq7
  refine g_astore_n (lv' := [(2, vr X ((n + 92))), (1, vr X n), (0, .ref sb)]) hC dL_law_15 rfl hml (by decide) rfl ?_
  refine g_iconst (v := 0) hC dL_law_16 rfl ic_0 ?_
  refine g_istore_n hC (fun y9 => [(3, .int y9), (2, vr X ((n + 92))), (1, vr X n), (0, .ref sb)]) dL_law_17 rfl hM hml (by decide) (fun _ => rfl) (fun y9 hM => ?_)
  exact g_sub [3, 2, 1, 0] ((bL_law_18 hC hml hR hf sl sc hX  FU) _ _ _ _ _ hq3 hq7 hM) rfl

/-! making cells; statics; strings; copying -/
def zs (σ : Sto) (n : Nat) : Sto := fun k i => if k = n then 0 else σ k i
def zn (ρ : Rho) (n : Nat) : Rho := fun k i => if k = n then none else ρ k i
theorem zs_s {σ n i} : zs σ n n i = 0 := by simp [zs]
theorem zs_n {σ : Sto} {n k i} (h : k ≠ n) : zs σ n k i = σ k i := by simp [zs, h]
theorem zn_s {ρ n i} : zn ρ n n i = none := by simp [zn]
theorem zn_n {ρ : Rho} {n k i} (h : k ≠ n) : zn ρ n k i = ρ k i := by simp [zn, h]
def nw {β : Type} (ci n : Nat) (σ : Sto) (ρ : Rho) (f : Sto → Rho → Option β) : Option β := if kd n = ci then f (zs σ n) (zn ρ n) else none
def nwa {β : Type} (t n : Nat) (len : Int32) (σ : Sto) (ρ : Rho) (f : Sto → Rho → Option β) : Option β := if kd n = t ∧ ln n = len.toNatClampNeg then f (zs σ n) (zn ρ n) else none
theorem sh_up {n k t : Nat} (h : Sh n k t) : Sh (n + 1) k t := ⟨by have := h.1; omega, h.2⟩
theorem sh_upm {n k t m : Nat} (h : Sh n k t) : Sh (n + m) k t := ⟨by have := h.1; omega, h.2⟩
theorem Ty_zn {n ρ} (h : Ty n ρ) : Ty (n + 1) (zn ρ n) := by
  intro k hk i j e
  by_cases hkn : k = n
  · subst hkn; rw [zn_s] at e; cases e
  · rw [zn_n hkn] at e
    have := h k (by omega) i j e
    exact ⟨by omega, this.2⟩
theorem Fb_zs {σ n} (h : Fb σ) : Fb (zs σ n) := by
  intro k hk i
  by_cases hkn : k = n
  · subst hkn; rw [zs_s]; decide
  · rw [zs_n hkn]; exact h k hk i
theorem wL_succ {dA b n σ ρ} : wL dA b n σ ρ ++ [(b + n, cE dA b (zs σ n) (zn ρ n) n)] = wL dA b (n + 1) (zs σ n) (zn ρ n) := by
  have h : (List.range n).map (fun k => (b + k, cE dA b (zs σ n) (zn ρ n) k)) = (List.range n).map (fun k => (b + k, cE dA b σ ρ k)) := by
    apply List.map_congr_left
    intro k hk
    have hk' : k ≠ n := by have := List.mem_range.mp hk; omega
    rw [cE_ne_of (fun i => zs_n hk') (fun i => zn_n hk')]
  unfold wL
  rw [List.range_succ, List.map_append, h, List.map_singleton]
theorem born_at {D : va_G} {dA b n σ ρ q x} {H1 : Heap} {A : Nat → Prop} {cs : Nat} {s0 : Nat} (hP : va_P D vwCl (wL dA b n σ ρ ++ [(q, x)]) H1) (hD : va_D A (wL dA b n σ ρ ++ [(q, x)])) (hA : ∀ z, A z → b ≤ z) (hz : s0 + cs = b + n) (hle : H1.size ≤ s0 + (cs + 1)) : q = b + n := by
  have hlen : (wL dA b n σ ρ).length = n := by simp [wL]
  have hq : (wL dA b n σ ρ ++ [(q, x)])[n]? = some (q, x) := by
    rw [List.getElem?_append_right (by omega), hlen]; simp
  have h1 := (hP n _ hq).lt
  have h2 := hA _ (hD.2 n _ hq)
  have h1' : q < H1.size := h1
  have h2' : b ≤ q := h2
  by_cases h3 : q < b + n
  · exfalso
    have h4 : (wL dA b n σ ρ ++ [(q, x)])[q - b]? = some (b + (q - b), cE dA b σ ρ (q - b)) := by
      rw [List.getElem?_append_left (by omega)]
      exact wL_get (by omega)
    have := hD.1 n (q - b) _ _ hq h4 (by show q = b + (q - b); omega)
    omega
  · omega
section MAKE
variable {X : CX} {cc : ByteArray} {own : String} {L cs ss n pc q : Nat} {σ : Sto} {ρ : Rho} {lv lv' : List (Nat × Value)} {st st' : List Value} {α β γ : Type} {res : β}
def dfV (t : Nat) : Value := if t = 0 then .int 0 else if t = 1 then .null else .long 0
theorem fv_z {b : Nat} {σ : Sto} {ρ : Rho} {t n i : Nat} : fv b (zs σ n) (zn ρ n) t n i = dfV t := by
  unfold fv dfV
  rw [zs_s, zn_s, zs_s]
  rfl
theorem g_new (hC : Cx X cc own L) {ci index N : Nat} {C : String} {T : u_T} {ty : Nat → FieldType} {f : Sto → Rho → Option β} (hci : ci < 20) (hc : vwCl[ci]? = some (C, T, N)) (hN : nF ci = N) (hin : ∀ w ∈ u_ws C T N, w ∈ lw_g) (hty : ∀ k, k < N → parseFieldDescriptor (T k).2.2.1 = some (ty k)) (hdf : ∀ k, k < N → defaultValue (ty k) = dfV (fK ci k)) (hw1 : Cond.classLink own index C ∈ lw_g) (hw2 : Cond.instantiable C N ∈ lw_g) (hw3 : Cond.initialized C ∈ lw_g) (hf : cs + 1 ≤ (xR X).cells ∧ ss + N ≤ (xR X).slots) (d : decode cc pc = .ok (.new index, 3)) (e : q = pc) (hM : nw ci n σ ρ f = some res) (kk : ∀ σ' ρ', Sh (n + 1) n ci → f σ' ρ' = some res → G X (cs + 1) (ss + N) (n + 1) σ' ρ' (pc + 3) lv (vr X n :: st)) : G X cs ss n σ ρ q lv st := by
  subst e
  unfold nw at hM
  by_cases hk : kd n = ci
  · rw [if_pos hk] at hM
    intro hz H locs ls hW hS h
    refine va_new (fs := fl (xb X) (zs σ n) (zn ρ n) ci n) hC.1 hC.2.1 hC.2.2.2.1 hin ty hty hC.2.2.1 (hC.2.2.2.1 _ hw1) (hC.2.2.2.1 _ hw2) (hC.2.2.2.1 _ hw3) hC.2.2.2.2.2.1 hW.1 (wL_D (fun q hq => hq)) hS (fun q hq => Nat.le_trans hC.2.2.2.2.2.2.2.2 hq) hc ?_ hf.1 hf.2 d (fun a H1 hP1 hD1 hS1 => ?_)
    · intro j hj
      rw [hdf j hj]
      unfold vp_V
      rw [List.getD_eq_getElem?_getD, fl_get (by omega), fv_z]
      rfl
    · refine w_size (fun hle => ?_)
      have ha := born_at hP1 hD1 (fun z hz => hz) hz hle
      subst ha
      refine kk _ _ ⟨Nat.lt_succ_self n, hk⟩ hM (by omega) H1 locs ls ⟨?_, Ty_zn hW.2.1, Fb_zs hW.2.2⟩ hS1 h
      rw [← wL_succ, cE_obj hk hci]
      exact hP1
  · rw [if_neg hk] at hM; cases hM
theorem tyL_eq {D : va_G} {dA : Nat → ClassId} {s : State} {cA : ClassId} {ty : FieldType} {t : Nat} (hK : va_K D vwCl (tyL dA ++ [(cA, ty)]) s) (ht : (tyL dA)[t]? = some (dA (t + 20), ty)) (hprim : ∀ C, ty ≠ .object C) : cA = dA (t + 20) := by
  have h1 := (hK.2 6 (cA, ty) (by rfl)).2
  have hlt : t < (tyL dA).length := (List.getElem?_eq_some_iff.mp ht).1
  have h2 := (hK.2 t (dA (t + 20), ty) (by rw [List.getElem?_append_left hlt]; exact ht)).2
  unfold va_RA at h1 h2
  cases ty with
  | object C => exact absurd rfl (hprim C)
  | _ => exact Option.some.inj (h1.symm.trans h2)
theorem tyL_eqO {D : va_G} {dA : Nat → ClassId} {s : State} {cA : ClassId} {C : String} {t : Nat} (hK : va_K D vwCl (tyL dA ++ [(cA, .object C)]) s) (ht : (tyL dA)[t]? = some (dA (t + 20), .object C)) : cA = dA (t + 20) := by
  obtain ⟨_, _, _, _, _, h1⟩ := (hK.2 6 (cA, .object C) (by rfl)).2
  have hlt : t < (tyL dA).length := (List.getElem?_eq_some_iff.mp ht).1
  obtain ⟨_, _, _, _, _, h2⟩ := (hK.2 t (dA (t + 20), .object C) (by rw [List.getElem?_append_left hlt]; exact ht)).2
  exact Option.some.inj (h1.symm.trans h2)
theorem g_newa (hC : Cx X cc own L) {t N : Nat} {atype : ArrayType} {ty : FieldType} {i : Int32} {f : Sto → Rho → Option β} (harr : Cond.arrayClass (newarray.typeOf atype) ∈ lw_g) (hty : newarray.typeOf atype = ty) (ht : (tyL (xA X))[t]? = some (xA X (t + 20), ty)) (ht3 : t < 3) (hprim : ∀ C, ty ≠ .object C) (hdv : defaultValue ty = .int 0) (hi : ¬ i < 0) (hN : i.toNatClampNeg = N) (hbytes : N * componentBytes ty ≤ 536870912) (hf : cs + 1 ≤ (xR X).cells ∧ ss + N ≤ (xR X).slots) (d : decode cc pc = .ok (.newarray atype, 2)) (e : q = pc) (hM : nwa (t + 20) n i σ ρ f = some res) (kk : ∀ σ' ρ', Sh (n + 1) n (t + 20) → f σ' ρ' = some res → G X (cs + 1) (ss + N) (n + 1) σ' ρ' (pc + 2) lv (vr X n :: st)) : G X cs ss n σ ρ q lv (.int i :: st) := by
  subst e
  unfold nwa at hM
  by_cases hk : kd n = t + 20 ∧ ln n = i.toNatClampNeg
  · rw [if_pos hk] at hM
    intro hz H locs ls hW hS h
    refine va_newa (atype := atype) (ty := ty) (a0 := (N, .inl (fun _ => 0))) hC.1 hC.2.1 (hC.2.2.2.1 _ harr) hty hC.2.2.2.2.2.1 hW.1 (wL_D (fun q hq => hq)) hS (fun q hq => Nat.le_trans hC.2.2.2.2.2.2.2.2 hq) (fun cA => by rw [hdv]; rfl) hi hN hbytes hf.1 hf.2 d (fun a cA H1 hK1 hP1 hD1 hS1 => ?_)
    refine w_size (fun hle => ?_)
    have ha := born_at hP1 hD1 (fun z hz => hz) hz hle
    have hcA := tyL_eq hK1 ht hprim
    subst ha
    subst hcA
    refine kk _ _ ⟨Nat.lt_succ_self n, hk.1⟩ hM (by omega) H1 locs ls ⟨?_, Ty_zn hW.2.1, Fb_zs hW.2.2⟩ hS1 h
    rw [← wL_succ, cE_num hk.1 (by omega) (by omega)]
    have e1 : zs σ n n = fun _ => 0 := funext fun i => zs_s
    rw [e1, hk.2, hN]
    exact hP1
  · rw [if_neg hk] at hM; cases hM
theorem g_newq (hC : Cx X cc own L) {t N index : Nat} {C : String} {i : Int32} {f : Sto → Rho → Option β} (hw : Cond.classLink own index C ∈ lw_g) (hao : C ∈ [RX0, RX8, RX4]) (ht : (tyL (xA X))[t]? = some (xA X (t + 20), .object C)) (ht3 : ¬ t < 3) (hi : ¬ i < 0) (hN : i.toNatClampNeg = N) (hbytes : N * 4 ≤ 536870912) (hf : cs + 1 ≤ (xR X).cells ∧ ss + N ≤ (xR X).slots) (d : decode cc pc = .ok (.anewarray index, 3)) (e : q = pc) (hM : nwa (t + 20) n i σ ρ f = some res) (kk : ∀ σ' ρ', Sh (n + 1) n (t + 20) → f σ' ρ' = some res → G X (cs + 1) (ss + N) (n + 1) σ' ρ' (pc + 3) lv (vr X n :: st)) : G X cs ss n σ ρ q lv (.int i :: st) := by
  subst e
  unfold nwa at hM
  by_cases hk : kd n = t + 20 ∧ ln n = i.toNatClampNeg
  · rw [if_pos hk] at hM
    intro hz H locs ls hW hS h
    refine va_newq hC.1 hC.2.1 hC.2.2.1 (hC.2.2.2.1 _ hw) (hC.2.2.2.2.2.2.1.2.2.2.2.2.2 C hao) hC.2.2.2.2.2.1 hW.1 (wL_D (fun q hq => hq)) hS (fun q hq => Nat.le_trans hC.2.2.2.2.2.2.2.2 hq) hi hN hbytes hf.1 hf.2 d (fun a cA H1 hK1 hP1 hD1 hS1 => ?_)
    refine w_size (fun hle => ?_)
    have ha := born_at hP1 hD1 (fun z hz => hz) hz hle
    have hcA := tyL_eqO hK1 ht
    subst ha
    subst hcA
    refine kk _ _ ⟨Nat.lt_succ_self n, hk.1⟩ hM (by omega) H1 locs ls ⟨?_, Ty_zn hW.2.1, Fb_zs hW.2.2⟩ hS1 h
    rw [← wL_succ, cE_ref hk.1 (by omega)]
    simp only [zn_s, Option.map_none]
    rw [hk.2, hN]
    exact hP1
  · rw [if_neg hk] at hM; cases hM
-- statics
def PrT (X : CX) (t : Nat) : Prop := va_T .int t 8 prF (AA (xb X)) (xs X) (xs X).heap
def pg (i : Int32) : Option Int32 := if i < 0 ∨ 8 ≤ i.toNatClampNeg then none else some (([3, 5, 7, 11, 13, 17, 19, 23] : List Int32).getD i.toNatClampNeg 0)
theorem g_getsP (hC : Cx X cc own L) {index : Nat} (hw : Cond.fieldLink own index RX11 "PRIMES" "[I" ∈ lw_g) (d : decode cc pc = .ok (.getstatic index, 3)) (e : q = pc) (kk : ∀ t, PrT X t → G X cs ss n σ ρ (pc + 3) lv (.ref t :: st)) : G X cs ss n σ ρ q lv st := by
  subst e
  intro hz H locs ls hW hS h
  obtain ⟨t, h1, h2⟩ := hC.2.2.2.2.2.2.1.1
  exact va_gets hC.1 hC.2.1 h1 hS hC.2.2.1 (hC.2.2.2.1 _ hw) (fun x hx => hx) d (kk t h2 hz H locs ls hW hS h)
theorem g_plen (hC : Cx X cc own L) {t : Nat} (hT : PrT X t) (d : decode cc pc = .ok (.arraylength, 1)) (e : q = pc) (kk : G X cs ss n σ ρ (pc + 1) lv (.int 8 :: st)) : G X cs ss n σ ρ q lv (.ref t :: st) := by
  subst e
  intro hz H locs ls hW hS h
  exact va_tlen hC.1 hC.2.1 hT hS rfl d (kk hz H locs ls hW hS h)
theorem g_pald (hC : Cx X cc own L) {t : Nat} {i : Int32} {f : Int32 → Option β} (hT : PrT X t) (d : decode cc pc = .ok (.iaload, 1)) (e : q = pc) (hM : Option.bind (pg i) f = some res) (kk : ∀ x, f x = some res → G X cs ss n σ ρ (pc + 1) lv (.int x :: st)) : G X cs ss n σ ρ q lv (.int i :: .ref t :: st) := by
  subst e
  intro hz H locs ls hW hS h
  unfold pg at hM
  by_cases hi : i < 0 ∨ 8 ≤ i.toNatClampNeg
  · rw [if_pos hi] at hM; cases hM
  · rw [if_neg hi] at hM
    exact va_ti hC.1 hC.2.1 hT hS hi rfl d (kk _ hM hz H locs ls hW hS h)
-- copying
def cpf (σ : Sto) (a : Nat) (sp : Nat) (c : Nat) (dp m : Nat) : Sto := fun k i => if k = c ∧ dp ≤ i ∧ i < dp + m then σ a (sp + (i - dp)) else σ k i
def cpa (σ : Sto) (a : Nat) (sp : Int32) (c : Nat) (dp m : Int32) : Option Sto := if sp < 0 ∨ dp < 0 ∨ m < 0 ∨ ¬ (sp.toNatClampNeg + m.toNatClampNeg ≤ ln a ∧ dp.toNatClampNeg + m.toNatClampNeg ≤ ln c) then none else some (cpf σ a sp.toNatClampNeg c dp.toNatClampNeg m.toNatClampNeg)
theorem cpf_n {σ : Sto} {a sp c dp m k i : Nat} (h : k ≠ c) : cpf σ a sp c dp m k i = σ k i := by simp [cpf, h]
theorem cpf_c {σ : Sto} {a sp c dp m : Nat} : cpf σ a sp c dp m c = va_cpy (σ a) (σ c) sp dp m := by
  funext i
  simp [cpf, va_cpy]
theorem g_copy (hC : Cx X cc own L) {a c t index : Nat} {ty : FieldType} {sp dp m : Int32} {f : Sto → Option β} (ha : Sh n a (t + 20)) (hc : Sh n c (t + 20)) (ht3 : t < 2) (hprim : refKind ty = false) (hty : (tyL (xA X))[t]? = some (xA X (t + 20), ty)) (hfit : (t = 1 ∧ ty = .byte) ∨ (t = 0 ∧ ty = .int)) (hw : Cond.methodLink own index arraycopyName ∈ lw_g) (hw2 : Cond.native arraycopyName ∈ lw_g) (hw3 : Cond.static arraycopyName ∈ lw_g) (hw4 : Cond.initialized "java/lang/System" ∈ lw_g) (hlev : 1 ≤ L) (d : decode cc pc = .ok (.invokestatic index, 3)) (e : q = pc) (hM : Option.bind (cpa σ a sp c dp m) f = some res) (kk : ∀ σ', f σ' = some res → G X cs ss n σ' ρ (pc + 3) lv []) : G X cs ss n σ ρ q lv (.int m :: .int dp :: vr X c :: .int sp :: vr X a :: []) := by
  subst e
  unfold cpa at hM
  by_cases hi : sp < 0 ∨ dp < 0 ∨ m < 0 ∨ ¬ (sp.toNatClampNeg + m.toNatClampNeg ≤ ln a ∧ dp.toNatClampNeg + m.toNatClampNeg ≤ ln c)
  · rw [if_pos hi] at hM; cases hM
  · rw [if_neg hi] at hM
    have i1 : ¬ sp < 0 := fun z => hi (Or.inl z)
    have i2 : ¬ dp < 0 := fun z => hi (Or.inr (Or.inl z))
    have i3 : ¬ m < 0 := fun z => hi (Or.inr (Or.inr (Or.inl z)))
    have i4 : sp.toNatClampNeg + m.toNatClampNeg ≤ ln a ∧ dp.toNatClampNeg + m.toNatClampNeg ≤ ln c := Decidable.not_not.mp (fun z => hi (Or.inr (Or.inr (Or.inr z))))
    intro hz H locs ls hW hS h
    refine va_copyi (ty := ty) hC.1 hC.2.1 h.1.symm hC.2.2.1 (hC.2.2.2.1 _ hw) (hC.2.2.2.1 _ hw2) (hC.2.2.2.1 _ hw3) (hC.2.2.2.1 _ hw4) hC.2.2.2.2.2.1 hW.1 (wL_D (fun q hq => hq)) hS a c t t (by rw [wL_get ha.1, cE_num ha.2 (by omega) (by omega)]) (by rw [wL_get hc.1, cE_num hc.2 (by omega) (by omega)]) hty hty hprim i1 i2 i3 i4.1 i4.2 ?_ (by have := hC.2.2.2.2.2.2.2.1.1; omega) ?_ d (fun H1 locs1 hP1 _ hS1 => kk _ hM hz H1 locs1 ls ⟨?_, hW.2.1, ?_⟩ hS1 h)
    · intro i hi
      rcases hfit with ⟨t1, e1⟩ | ⟨t1, e1⟩
      · subst e1; exact hW.2.2 a (by rw [ha.2, t1]) _
      · subst e1; rfl
    · have h1 := hC.2.2.2.2.2.2.2.1.2
      have h2 : nativeFrameWords "java/lang/System" "arraycopy" 5 + 11 ≤ 36 := by decide +kernel
      show 0 + (nativeFrameWords "java/lang/System" "arraycopy" 5 + 11) ≤ (xR X).locals
      omega
    · rw [wL_set (σ' := cpf σ a sp.toNatClampNeg c dp.toNatClampNeg m.toNatClampNeg) (ρ' := ρ) hc.1 (fun k' hk' => ⟨fun _ => cpf_n hk', fun _ => rfl⟩)] at hP1
      · exact hP1
      · rw [cE_num hc.2 (by omega) (by omega), cpf_c]
    · intro k hk i
      by_cases h2 : k = c ∧ dp.toNatClampNeg ≤ i ∧ i < dp.toNatClampNeg + m.toNatClampNeg
      · have e1 : cpf σ a sp.toNatClampNeg c dp.toNatClampNeg m.toNatClampNeg k i = σ a (sp.toNatClampNeg + (i - dp.toNatClampNeg)) := by simp [cpf, h2]
        rw [e1]
        refine hW.2.2 a ?_ _
        rw [ha.2, ← hc.2, ← h2.1, hk]
      · have e1 : cpf σ a sp.toNatClampNeg c dp.toNatClampNeg m.toNatClampNeg k i = σ k i := by unfold cpf; rw [if_neg h2]
        rw [e1]; exact hW.2.2 k hk i
end MAKE

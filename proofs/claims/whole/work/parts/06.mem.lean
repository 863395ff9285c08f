/-! rows over the world: fields, arrays, switches, answers -/
section MEM
variable {X : CX} {cc : ByteArray} {own : String} {L cs ss n pc q : Nat} {σ : Sto} {ρ : Rho} {lv lv' : List (Nat × Value)} {st : List Value} {α β γ : Type} {res : β}
theorem fv0 {b σ ρ k i} : fv b σ ρ 0 k i = .int (σ k i) := rfl
theorem fv1 {b σ ρ k i j} (h : ρ k i = some j) : fv b σ ρ 1 k i = .ref (b + j) := by simp [fv, h, va_rf]
theorem fv2 {b σ ρ k i} : fv b σ ρ 2 k i = .long (jn (σ k i) (σ k (i + 1000))) := rfl
theorem w_size {p : Program} {l : Launch} {e : Env} {R : Room} {s : State} {m : MethodId} {args : Array Value} {below : List Frame} {meth : Method} {c : Code} {H : Heap} {locs : List Loc} {cells slots : Nat} {Q : State → Prop} {g : JFrame} (k : H.size ≤ s.heap.size + cells → W p l e R s m args below meth c H locs cells slots Q g) : W p l e R s m args below meth c H locs cells slots Q g :=
  fun T hT XX => k (by rw [← hT]; exact XX.heapSize) T hT XX
theorem wd_size {D dA b n σ ρ} {H H0 : Heap} {locs : List Loc} {A : Nat → Prop} {cs : Nat} (hW : Wd D dA b n σ ρ H) (hS : va_S A H0 H locs) (hz : H0.size + cs = b + n) (hb : b ≤ H0.size) (hle : H.size ≤ H0.size + cs) : H.size = b + n := by
  cases n with
  | zero => have := hS.1; omega
  | succ m =>
    have h1 := (hW.1 m _ (wL_get (Nat.lt_succ_self m))).lt
    have h2 : b + m < H.size := h1
    omega
/-- a number's field -/
theorem g_geti (hC : Cx X cc own L) {ci k i index N : Nat} {C ref : String} {T : u_T} (hsh : Sh n k ci) (hc : vwCl[ci]? = some (C, T, N)) (hin : ∀ w ∈ u_ws C T N, w ∈ lw_g) (hk : ci < 20 ∧ i < nF ci ∧ i < N ∧ fK ci i = 0) (hw : Cond.fieldLink own index ref (T i).2.1 (T i).2.2.1 ∈ lw_g) (hsame : (T i).1 = ref) (d : decode cc pc = .ok (.getfield index, 3)) (e : q = pc) (kk : G X cs ss n σ ρ (pc + 3) lv (.int (σ k i) :: st)) : G X cs ss n σ ρ q lv (vr X k :: st) := by
  subst e; subst hsame
  intro hz H locs ls hW hS h
  exact va_get hC.1 hC.2.1 hC.2.2.2.1 hin hC.2.2.1 hC.2.2.2.2.2.1 hW.1 k (by rw [wL_get hsh.1, cE_obj hsh.2 hk.1]) hc i hk.2.2.1 (hC.2.2.2.1 _ hw) (fun x hx => hx) (by rw [fl_get hk.2.1, hk.2.2.2, fv0]) d (kk hz H locs ls hW hS h)
theorem g_getj (hC : Cx X cc own L) {ci k i index N : Nat} {C ref : String} {T : u_T} (hsh : Sh n k ci) (hc : vwCl[ci]? = some (C, T, N)) (hin : ∀ w ∈ u_ws C T N, w ∈ lw_g) (hk : ci < 20 ∧ i < nF ci ∧ i < N ∧ fK ci i = 2) (hw : Cond.fieldLink own index ref (T i).2.1 (T i).2.2.1 ∈ lw_g) (hsame : (T i).1 = ref) (d : decode cc pc = .ok (.getfield index, 3)) (e : q = pc) (kk : G X cs ss n σ ρ (pc + 3) lv (.long (jn (σ k i) (σ k (i + 1000))) :: st)) : G X cs ss n σ ρ q lv (vr X k :: st) := by
  subst e; subst hsame
  intro hz H locs ls hW hS h
  exact va_get hC.1 hC.2.1 hC.2.2.2.1 hin hC.2.2.1 hC.2.2.2.2.2.1 hW.1 k (by rw [wL_get hsh.1, cE_obj hsh.2 hk.1]) hc i hk.2.2.1 (hC.2.2.2.1 _ hw) (fun x hx => hx) (by rw [fl_get hk.2.1, hk.2.2.2, fv2]) d (kk hz H locs ls hW hS h)
/-- a reference's field -/
theorem g_getr (hC : Cx X cc own L) {ci k i index N t : Nat} {C ref : String} {T : u_T} {f : Nat → Option β} (hsh : Sh n k ci) (hc : vwCl[ci]? = some (C, T, N)) (hin : ∀ w ∈ u_ws C T N, w ∈ lw_g) (hk : ci < 20 ∧ i < nF ci ∧ i < N ∧ fK ci i = 1) (ht : fT ci i = t) (hw : Cond.fieldLink own index ref (T i).2.1 (T i).2.2.1 ∈ lw_g) (hsame : (T i).1 = ref) (d : decode cc pc = .ok (.getfield index, 3)) (e : q = pc) (hM : Option.bind (ρ k i) f = some res) (kk : ∀ j, Sh n j t → f j = some res → G X cs ss n σ ρ (pc + 3) lv (vr X j :: st)) : G X cs ss n σ ρ q lv (vr X k :: st) := by
  subst e; subst hsame
  intro hz H locs ls hW hS h
  cases hj : ρ k i with
  | none => rw [hj] at hM; cases hM
  | some j =>
    rw [hj] at hM
    have hJ := hW.2.1 k hsh.1 i j hj
    rw [hsh.2, ht] at hJ
    exact va_get hC.1 hC.2.1 hC.2.2.2.1 hin hC.2.2.1 hC.2.2.2.2.2.1 hW.1 k (by rw [wL_get hsh.1, cE_obj hsh.2 hk.1]) hc i hk.2.2.1 (hC.2.2.2.1 _ hw) (fun x hx => hx) (by rw [fl_get hk.2.1, hk.2.2.2, fv1 hj]) d (kk j hJ hM hz H locs ls hW hS h)
theorem nF_small : ∀ c, c < 20 → nF c < 1000 := by decide +kernel
theorem fb_su {σ : Sto} {k i : Nat} {x : Int32} {t : Nat} (h : Fb σ) (hk : kd k = t) (ht : t ≠ 21) : Fb (su σ k i x) := by
  intro k2 h2 i2
  rw [su_n (Or.inl (fun q => by subst q; exact ht (hk.symm.trans h2)))]
  exact h k2 h2 i2
theorem Wd.puti {D dA b n σ ρ k ci i x} {H1 : Heap} (hT : Ty n ρ) (hF : Fb σ) (hsh : Sh n k ci) (hk : ci < 20 ∧ i < nF ci ∧ fK ci i = 0) (hP : va_P D vwCl ((wL dA b n σ ρ).set k (b + k, .inr (ci, (fl b σ ρ ci k).set i (.int x)))) H1) : Wd D dA b n (su σ k i x) ρ H1 := by
  refine ⟨?_, hT, fb_su hF hsh.2 (by omega)⟩
  rw [wL_set (σ' := su σ k i x) (ρ' := ρ) hsh.1 (fun k' hk' => ⟨fun _ => su_n (Or.inl hk'), fun _ => rfl⟩)] at hP
  · exact hP
  · rw [cE_obj hsh.2 hk.1, fl_set (σ' := su σ k i x) (ρ' := ρ) hk.2.1]
    · intro i' hi' hne
      unfold fv
      by_cases h0 : fK ci i' = 0
      · rw [if_pos h0, if_pos h0, su_n (Or.inr hne)]
      · rw [if_neg h0, if_neg h0]
        by_cases h1 : fK ci i' = 1
        · rw [if_pos h1, if_pos h1]
        · rw [if_neg h1, if_neg h1, su_n (Or.inr hne)]
          have hsm := nF_small ci hk.1
          rw [su_n (Or.inr (by omega))]
    · rw [hk.2.2, fv0, su_s]
theorem Wd.putj {D dA b n σ ρ k ci i} {x : Int64} {H1 : Heap} (hT : Ty n ρ) (hF : Fb σ) (hsh : Sh n k ci) (hk : ci < 20 ∧ i < nF ci ∧ fK ci i = 2) (hP : va_P D vwCl ((wL dA b n σ ρ).set k (b + k, .inr (ci, (fl b σ ρ ci k).set i (.long x)))) H1) : Wd D dA b n (su (su σ k i (jlo x)) k (i + 1000) (jhi x)) ρ H1 := by
  refine ⟨?_, hT, fb_su (fb_su hF hsh.2 (by omega)) hsh.2 (by omega)⟩
  have hsm := nF_small ci hk.1
  rw [wL_set (σ' := su (su σ k i (jlo x)) k (i + 1000) (jhi x)) (ρ' := ρ) hsh.1 (fun k' hk' => ⟨fun _ => by rw [su_n (Or.inl hk'), su_n (Or.inl hk')], fun _ => rfl⟩)] at hP
  · exact hP
  · rw [cE_obj hsh.2 hk.1, fl_set (σ' := su (su σ k i (jlo x)) k (i + 1000) (jhi x)) (ρ' := ρ) hk.2.1]
    · intro i' hi' hne
      unfold fv
      by_cases h0 : fK ci i' = 0
      · rw [if_pos h0, if_pos h0, su_n (Or.inr (by omega)), su_n (Or.inr hne)]
      · rw [if_neg h0, if_neg h0]
        by_cases h1 : fK ci i' = 1
        · rw [if_pos h1, if_pos h1]
        · rw [if_neg h1, if_neg h1, su_n (Or.inr (by omega)), su_n (Or.inr hne), su_n (Or.inr (by omega)), su_n (Or.inr (by omega))]
    · rw [hk.2.2, fv2, su_s, su_n (Or.inr (by omega)), su_s, jn_jlo]
theorem Ty.ru {n : Nat} {ρ : Rho} {k i j t : Nat} (h : Ty n ρ) (hj : Sh n j t) (hk : fT (kd k) i = t) : Ty n (ru ρ k i (some j)) := by
  intro k2 h2 i2 j2 e
  by_cases hh : k2 = k ∧ i2 = i
  · obtain ⟨rfl, rfl⟩ := hh
    rw [ru_s] at e
    cases e
    exact ⟨hj.1, by rw [hj.2, hk]⟩
  · rw [ru_n (by by_cases q : k2 = k; exact Or.inr (fun z => hh ⟨q, z⟩); exact Or.inl q)] at e
    exact h k2 h2 i2 j2 e
theorem Wd.putr {D dA b n σ ρ k ci i j t} {H1 : Heap} (hT : Ty n ρ) (hF : Fb σ) (hsh : Sh n k ci) (hj : Sh n j t) (ht : fT ci i = t) (hk : ci < 20 ∧ i < nF ci ∧ fK ci i = 1) (hP : va_P D vwCl ((wL dA b n σ ρ).set k (b + k, .inr (ci, (fl b σ ρ ci k).set i (.ref (b + j))))) H1) : Wd D dA b n σ (ru ρ k i (some j)) H1 := by
  refine ⟨?_, hT.ru hj (by rw [hsh.2, ht]), hF⟩
  rw [wL_set (σ' := σ) (ρ' := ru ρ k i (some j)) hsh.1 (fun k' hk' => ⟨fun _ => rfl, fun _ => ru_n (Or.inl hk')⟩)] at hP
  · exact hP
  · rw [cE_obj hsh.2 hk.1, fl_set (σ' := σ) (ρ' := ru ρ k i (some j)) hk.2.1]
    · intro i' hi' hne
      unfold fv
      rw [ru_n (Or.inr hne)]
    · rw [hk.2.2, fv1 ru_s]
theorem g_puti (hC : Cx X cc own L) {ci k i index N : Nat} {C ref : String} {T : u_T} {ty : Nat → FieldType} {x : Int32} {f : Sto → Option β} (hsh : Sh n k ci) (hc : vwCl[ci]? = some (C, T, N)) (hin : ∀ w ∈ u_ws C T N, w ∈ lw_g) (hty : ∀ k, k < N → parseFieldDescriptor (T k).2.2.1 = some (ty k)) (hnm : ∀ a, a < N → ∀ b, b < N → a ≠ b → (T a).2.1 ≠ (T b).2.1) (hk : ci < 20 ∧ i < nF ci ∧ i < N ∧ fK ci i = 0) (hint : ty i = .int) (hfin : (T i).2.2.2 = false) (hw : Cond.fieldLink own index ref (T i).2.1 (T i).2.2.1 ∈ lw_g) (hsame : (T i).1 = ref) (d : decode cc pc = .ok (.putfield index, 3)) (e : q = pc) (hM : bn (su σ k i x) f = some res) (kk : ∀ σ', f σ' = some res → G X cs ss n σ' ρ (pc + 3) lv st) : G X cs ss n σ ρ q lv (.int x :: vr X k :: st) := by
  subst e; subst hsame
  intro hz H locs ls hW hS h
  exact va_put hC.1 hC.2.1 hC.2.2.2.1 hin ty hty hnm hC.2.2.1 hC.2.2.2.2.2.1 hW.1 (wL_D (fun q hq => hq)) hS k (by rw [wL_get hsh.1, cE_obj hsh.2 hk.1]) hc i hk.2.2.1 (hC.2.2.2.1 _ hw) (fun x hx => hx) hfin (by rw [hty i hk.2.2.1, hint]) rfl rfl (by rw [fl_len]; exact hk.2.1) d (fun H1 locs1 hP1 _ hS1 => kk _ hM hz H1 locs1 ls (Wd.puti hW.2.1 hW.2.2 hsh ⟨hk.1, hk.2.1, hk.2.2.2⟩ hP1) hS1 h)
theorem g_putj (hC : Cx X cc own L) {ci k i index N : Nat} {C ref : String} {T : u_T} {ty : Nat → FieldType} {x : Int64} {f : Sto → Option β} (hsh : Sh n k ci) (hc : vwCl[ci]? = some (C, T, N)) (hin : ∀ w ∈ u_ws C T N, w ∈ lw_g) (hty : ∀ k, k < N → parseFieldDescriptor (T k).2.2.1 = some (ty k)) (hnm : ∀ a, a < N → ∀ b, b < N → a ≠ b → (T a).2.1 ≠ (T b).2.1) (hk : ci < 20 ∧ i < nF ci ∧ i < N ∧ fK ci i = 2) (hint : ty i = .long) (hfin : (T i).2.2.2 = false) (hw : Cond.fieldLink own index ref (T i).2.1 (T i).2.2.1 ∈ lw_g) (hsame : (T i).1 = ref) (d : decode cc pc = .ok (.putfield index, 3)) (e : q = pc) (hM : bn (su (su σ k i (jlo x)) k (i + 1000) (jhi x)) f = some res) (kk : ∀ σ', f σ' = some res → G X cs ss n σ' ρ (pc + 3) lv st) : G X cs ss n σ ρ q lv (.long x :: vr X k :: st) := by
  subst e; subst hsame
  intro hz H locs ls hW hS h
  exact va_put hC.1 hC.2.1 hC.2.2.2.1 hin ty hty hnm hC.2.2.1 hC.2.2.2.2.2.1 hW.1 (wL_D (fun q hq => hq)) hS k (by rw [wL_get hsh.1, cE_obj hsh.2 hk.1]) hc i hk.2.2.1 (hC.2.2.2.1 _ hw) (fun x hx => hx) hfin (by rw [hty i hk.2.2.1, hint]) rfl rfl (by rw [fl_len]; exact hk.2.1) d (fun H1 locs1 hP1 _ hS1 => kk _ hM hz H1 locs1 ls (Wd.putj hW.2.1 hW.2.2 hsh ⟨hk.1, hk.2.1, hk.2.2.2⟩ hP1) hS1 h)
/-- a final reference's field, in a constructor -/
theorem g_putr (hC : Cx X cc own L) (hin2 : (xh X).name = "<init>") {ci k i j t index N : Nat} {C ref : String} {T : u_T} {ty : Nat → FieldType} {f : Rho → Option β} (hsh : Sh n k ci) (hj : Sh n j t) (ht : fT ci i = t) (hc : vwCl[ci]? = some (C, T, N)) (hin : ∀ w ∈ u_ws C T N, w ∈ lw_g) (hty : ∀ k, k < N → parseFieldDescriptor (T k).2.2.1 = some (ty k)) (hnm : ∀ a, a < N → ∀ b, b < N → a ≠ b → (T a).2.1 ≠ (T b).2.1) (hk : ci < 20 ∧ i < nF ci ∧ i < N ∧ fK ci i = 1) (hrt : ∀ a : Nat, narrow (ty i) (.ref a) = .ref a ∧ fits (ty i) (.ref a) = true) (hfin : (T i).2.2.2 = true) (hw : Cond.fieldLink own index ref (T i).2.1 (T i).2.2.1 ∈ lw_g) (hsame : (T i).1 = ref) (hown : (T i).1 = own) (d : decode cc pc = .ok (.putfield index, 3)) (e : q = pc) (hM : bn (ru ρ k i (some j)) f = some res) (kk : ∀ ρ', f ρ' = some res → G X cs ss n σ ρ' (pc + 3) lv st) : G X cs ss n σ ρ q lv (vr X j :: vr X k :: st) := by
  subst e; subst hsame
  intro hz H locs ls hW hS h
  exact va_putF hC.1 hC.2.1 hC.2.2.2.1 hin ty hty hnm hC.2.2.1 hC.2.2.2.2.2.1 hW.1 (wL_D (fun q hq => hq)) hS k (by rw [wL_get hsh.1, cE_obj hsh.2 hk.1]) hc i hk.2.2.1 (hC.2.2.2.1 _ hw) (fun x hx => hx) hfin hin2 hown (hty i hk.2.2.1) (hrt _).1 (hrt _).2 (by rw [fl_len]; exact hk.2.1) d (fun H1 locs1 hP1 _ hS1 => kk _ hM hz H1 locs1 ls (Wd.putr hW.2.1 hW.2.2 hsh hj ht ⟨hk.1, hk.2.1, hk.2.2.2⟩ hP1) hS1 h)
-- arrays
def ag (σ : Sto) (k : Nat) (i : Int32) : Option Int32 := if i < 0 ∨ ln k ≤ i.toNatClampNeg then none else some (σ k i.toNatClampNeg)
def ap (σ : Sto) (k : Nat) (i x : Int32) : Option Sto := if i < 0 ∨ ln k ≤ i.toNatClampNeg then none else some (su σ k i.toNatClampNeg x)
def rg (ρ : Rho) (k : Nat) (i : Int32) : Option Nat := if i < 0 ∨ ln k ≤ i.toNatClampNeg then none else ρ k i.toNatClampNeg
def rp (ρ : Rho) (k : Nat) (i : Int32) (j : Nat) : Option Rho := if i < 0 ∨ ln k ≤ i.toNatClampNeg then none else some (ru ρ k i.toNatClampNeg (some j))
theorem g_iald (hC : Cx X cc own L) {k : Nat} {i : Int32} {f : Int32 → Option β} (hsh : Sh n k 20) (d : decode cc pc = .ok (.iaload, 1)) (e : q = pc) (hM : Option.bind (ag σ k i) f = some res) (kk : ∀ x, f x = some res → G X cs ss n σ ρ (pc + 1) lv (.int x :: st)) : G X cs ss n σ ρ q lv (.int i :: vr X k :: st) := by
  subst e
  intro hz H locs ls hW hS h
  unfold ag at hM
  by_cases hi : i < 0 ∨ ln k ≤ i.toNatClampNeg
  · rw [if_pos hi] at hM; cases hM
  · rw [if_neg hi] at hM
    exact va_iald hC.1 hC.2.1 hC.2.2.2.2.2.1 hW.1 k 0 (by rw [wL_get hsh.1, cE_num hsh.2 (by decide) (by decide)]) rfl hi d (kk _ hM hz H locs ls hW hS h)
theorem g_bald (hC : Cx X cc own L) {k : Nat} {i : Int32} {f : Int32 → Option β} (hsh : Sh n k 21) (d : decode cc pc = .ok (.baload, 1)) (e : q = pc) (hM : Option.bind (ag σ k i) f = some res) (kk : ∀ x, f x = some res → G X cs ss n σ ρ (pc + 1) lv (.int x :: st)) : G X cs ss n σ ρ q lv (.int i :: vr X k :: st) := by
  subst e
  intro hz H locs ls hW hS h
  unfold ag at hM
  by_cases hi : i < 0 ∨ ln k ≤ i.toNatClampNeg
  · rw [if_pos hi] at hM; cases hM
  · rw [if_neg hi] at hM
    exact va_bald hC.1 hC.2.1 hC.2.2.2.2.2.1 hW.1 k 1 (by rw [wL_get hsh.1, cE_num hsh.2 (by decide) (by decide)]) rfl hi d (kk _ hM hz H locs ls hW hS h)
theorem g_zald (hC : Cx X cc own L) {k : Nat} {i : Int32} {f : Int32 → Option β} (hsh : Sh n k 22) (d : decode cc pc = .ok (.baload, 1)) (e : q = pc) (hM : Option.bind (ag σ k i) f = some res) (kk : ∀ x, f x = some res → G X cs ss n σ ρ (pc + 1) lv (.int x :: st)) : G X cs ss n σ ρ q lv (.int i :: vr X k :: st) := by
  subst e
  intro hz H locs ls hW hS h
  unfold ag at hM
  by_cases hi : i < 0 ∨ ln k ≤ i.toNatClampNeg
  · rw [if_pos hi] at hM; cases hM
  · rw [if_neg hi] at hM
    exact va_zald hC.1 hC.2.1 hC.2.2.2.2.2.1 hW.1 k 2 (by rw [wL_get hsh.1, cE_num hsh.2 (by decide) (by decide)]) rfl hi d (kk _ hM hz H locs ls hW hS h)
theorem Wd.puta {D dA b n σ ρ k t} {i : Nat} {x : Int32} {H1 : Heap} (hT : Ty n ρ) (hF : Fb (su σ k i x)) (hsh : Sh n k t) (h1 : ¬ t < 20) (h2 : t < 23) (hP : va_P D vwCl ((wL dA b n σ ρ).set k (b + k, .inl (dA t, (ln k, .inl (upd (σ k) i x))))) H1) : Wd D dA b n (su σ k i x) ρ H1 := by
  refine ⟨?_, hT, hF⟩
  rw [wL_set (σ' := su σ k i x) (ρ' := ρ) hsh.1 (fun k' hk' => ⟨fun _ => su_n (Or.inl hk'), fun _ => rfl⟩)] at hP
  · exact hP
  · rw [cE_num hsh.2 h1 h2, su_upd]
theorem g_iast (hC : Cx X cc own L) {k : Nat} {i x : Int32} {f : Sto → Option β} (hsh : Sh n k 20) (d : decode cc pc = .ok (.iastore, 1)) (e : q = pc) (hM : Option.bind (ap σ k i x) f = some res) (kk : ∀ σ', f σ' = some res → G X cs ss n σ' ρ (pc + 1) lv st) : G X cs ss n σ ρ q lv (.int x :: .int i :: vr X k :: st) := by
  subst e
  intro hz H locs ls hW hS h
  unfold ap at hM
  by_cases hi : i < 0 ∨ ln k ≤ i.toNatClampNeg
  · rw [if_pos hi] at hM; cases hM
  · rw [if_neg hi] at hM
    exact va_iast hC.1 hC.2.1 hC.2.2.2.2.2.1 hW.1 (wL_D (fun q hq => hq)) hS k 0 (by rw [wL_get hsh.1, cE_num hsh.2 (by decide) (by decide)]) rfl hi d (fun H1 locs1 hP1 _ hS1 => kk _ hM hz H1 locs1 ls (Wd.puta hW.2.1 (fb_su hW.2.2 hsh.2 (by decide)) hsh (by decide) (by decide) hP1) hS1 h)
theorem fb_by {σ : Sto} {k i : Nat} {x : Int32} (h : Fb σ) (hx : fits .byte (.int x) = true) : Fb (su σ k i x) := by
  intro k2 h2 i2
  by_cases hh : k2 = k ∧ i2 = i
  · obtain ⟨rfl, rfl⟩ := hh
    rw [su_s]; exact hx
  · rw [su_n (by by_cases q : k2 = k; exact Or.inr (fun z => hh ⟨q, z⟩); exact Or.inl q)]
    exact h k2 h2 i2
theorem g_bast (hC : Cx X cc own L) {k : Nat} {i x : Int32} {f : Sto → Option β} (hsh : Sh n k 21) (d : decode cc pc = .ok (.bastore, 1)) (e : q = pc) (hM : Option.bind (ap σ k i x.toInt8.toInt32) f = some res) (kk : ∀ σ', f σ' = some res → G X cs ss n σ' ρ (pc + 1) lv st) : G X cs ss n σ ρ q lv (.int x :: .int i :: vr X k :: st) := by
  subst e
  intro hz H locs ls hW hS h
  unfold ap at hM
  by_cases hi : i < 0 ∨ ln k ≤ i.toNatClampNeg
  · rw [if_pos hi] at hM; cases hM
  · rw [if_neg hi] at hM
    exact va_bast hC.1 hC.2.1 hC.2.2.2.2.2.1 hW.1 (wL_D (fun q hq => hq)) hS k 1 (by rw [wL_get hsh.1, cE_num hsh.2 (by decide) (by decide)]) rfl hi d (fun H1 locs1 hP1 _ hS1 => kk _ hM hz H1 locs1 ls (Wd.puta hW.2.1 (fb_by hW.2.2 (pk_fb x)) hsh (by decide) (by decide) (by rw [vp_nar_byte] at hP1; exact hP1)) hS1 h)
theorem g_zast (hC : Cx X cc own L) {k : Nat} {i x : Int32} {f : Sto → Option β} (hx : vp_nar .boolean x = x) (hsh : Sh n k 22) (d : decode cc pc = .ok (.bastore, 1)) (e : q = pc) (hM : Option.bind (ap σ k i x) f = some res) (kk : ∀ σ', f σ' = some res → G X cs ss n σ' ρ (pc + 1) lv st) : G X cs ss n σ ρ q lv (.int x :: .int i :: vr X k :: st) := by
  subst e
  intro hz H locs ls hW hS h
  unfold ap at hM
  by_cases hi : i < 0 ∨ ln k ≤ i.toNatClampNeg
  · rw [if_pos hi] at hM; cases hM
  · rw [if_neg hi] at hM
    exact va_zast hC.1 hC.2.1 hC.2.2.2.2.2.1 hW.1 (wL_D (fun q hq => hq)) hS k 2 (by rw [wL_get hsh.1, cE_num hsh.2 (by decide) (by decide)]) rfl hi d (fun H1 locs1 hP1 _ hS1 => kk _ hM hz H1 locs1 ls (Wd.puta hW.2.1 (fb_su hW.2.2 hsh.2 (by decide)) hsh (by decide) (by decide) (by rw [hx] at hP1; exact hP1)) hS1 h)
theorem g_aald (hC : Cx X cc own L) {k t te : Nat} {C : String} {i : Int32} {f : Nat → Option β} (hsh : Sh n k t) (ht : ¬ t < 23) (hty : (tyL (xA X))[t - 20]? = some (xA X t, .object C)) (hte : fT t i.toNatClampNeg = te) (d : decode cc pc = .ok (.aaload, 1)) (e : q = pc) (hM : Option.bind (rg ρ k i) f = some res) (kk : ∀ j, Sh n j te → f j = some res → G X cs ss n σ ρ (pc + 1) lv (vr X j :: st)) : G X cs ss n σ ρ q lv (.int i :: vr X k :: st) := by
  subst e
  intro hz H locs ls hW hS h
  unfold rg at hM
  by_cases hi : i < 0 ∨ ln k ≤ i.toNatClampNeg
  · rw [if_pos hi] at hM; cases hM
  · rw [if_neg hi] at hM
    cases hj : ρ k i.toNatClampNeg with
    | none => rw [hj] at hM; cases hM
    | some j =>
      rw [hj] at hM
      have hJ := hW.2.1 k hsh.1 _ j hj
      rw [hsh.2, hte] at hJ
      have hk := kk j hJ hM hz H locs ls hW hS h
      refine va_aldq hC.1 hC.2.1 hC.2.2.2.2.2.1 hW.1 k (t - 20) (by rw [wL_get hsh.1, cE_ref hsh.2 ht]) hty hi d ?_
      rw [hj]
      exact hk
theorem Wd.putq {D dA b n σ ρ k i j t te} {H1 : Heap} (hT : Ty n ρ) (hF : Fb σ) (hsh : Sh n k t) (ht : ¬ t < 23) (hj : Sh n j te) (hte : fT t i = te) (hP : va_P D vwCl ((wL dA b n σ ρ).set k (b + k, .inl (dA t, (ln k, .inr (.inr (.inr (.inr (va_up (fun i => (ρ k i).map (fun j => b + j)) i (some (b + j)))))))))) H1) : Wd D dA b n σ (ru ρ k i (some j)) H1 := by
  refine ⟨?_, hT.ru hj (by rw [hsh.2, hte]), hF⟩
  rw [wL_set (σ' := σ) (ρ' := ru ρ k i (some j)) hsh.1 (fun k' hk' => ⟨fun _ => rfl, fun _ => ru_n (Or.inl hk')⟩)] at hP
  · exact hP
  · rw [cE_ref hsh.2 ht]
    congr 7
    funext i2
    unfold va_up
    by_cases h2 : i2 = i
    · rw [if_pos h2, h2, ru_s]; rfl
    · rw [if_neg h2, ru_n (Or.inr h2)]
theorem g_aast (hC : Cx X cc own L) {k t te j ci : Nat} {r : vw_C} {i : Int32} {f : Rho → Option β} (hsh : Sh n k t) (ht : ¬ t < 23) (hte : fT t i.toNatClampNeg = te) (hj : Sh n j te) (hci : te < 20) (hc : vwCl[te]? = some r) (hty : (tyL (xA X))[t - 20]? = some (xA X t, .object r.1)) (d : decode cc pc = .ok (.aastore, 1)) (e : q = pc) (hM : Option.bind (rp ρ k i j) f = some res) (kk : ∀ ρ', f ρ' = some res → G X cs ss n σ ρ' (pc + 1) lv st) : G X cs ss n σ ρ q lv (vr X j :: .int i :: vr X k :: st) := by
  subst e
  intro hz H locs ls hW hS h
  unfold rp at hM
  by_cases hi : i < 0 ∨ ln k ≤ i.toNatClampNeg
  · rw [if_pos hi] at hM; cases hM
  · rw [if_neg hi] at hM
    exact va_astq hC.1 hC.2.1 hC.2.2.2.2.2.1 hW.1 (wL_D (fun q hq => hq)) hS k (t - 20) j te (by rw [wL_get hsh.1, cE_ref hsh.2 ht]) hty (by rw [wL_get hj.1, cE_obj hj.2 hci]) hc hi d (fun H1 locs1 hP1 _ hS1 => kk _ hM hz H1 locs1 ls (Wd.putq hW.2.1 hW.2.2 hsh ht hj hte hP1) hS1 h)
theorem g_alen (hC : Cx X cc own L) {k t : Nat} {ty : FieldType} {v : Int32} (hsh : Sh n k t) (ht : ¬ t < 20) (hty : (tyL (xA X))[t - 20]? = some (xA X t, ty)) (hv : Int32.ofNat (ln k) = v) (d : decode cc pc = .ok (.arraylength, 1)) (e : q = pc) (kk : G X cs ss n σ ρ (pc + 1) lv (.int v :: st)) : G X cs ss n σ ρ q lv (vr X k :: st) := by
  subst e
  intro hz H locs ls hW hS h
  by_cases h2 : t < 23
  · exact va_alen hC.1 hC.2.1 hC.2.2.2.2.2.1 hW.1 k (t - 20) (by rw [wL_get hsh.1, cE_num hsh.2 ht h2]) hty hv d (kk hz H locs ls hW hS h)
  · exact va_alen hC.1 hC.2.1 hC.2.2.2.2.2.1 hW.1 k (t - 20) (by rw [wL_get hsh.1, cE_ref hsh.2 h2]) hty hv d (kk hz H locs ls hW hS h)
/-- a switch: the table's offsets, told by what the number is -/
theorem g_tsw (hC : Cx X cc own L) {dflt lo hi : Int} {offs : Array Int} {len : Nat} {x : Int32} {off : Int} {tgt : Nat} (d : decode cc pc = .ok (.tableswitch dflt lo hi offs, len)) (e : q = pc) (h1 : ¬ x.toInt < lo) (h2 : ¬ hi < x.toInt) (ho : offs[(x.toInt - lo).toNat]? = some off) (ht : (pc : Int) + off = (tgt : Int)) (k : G X cs ss n σ ρ tgt lv st) : G X cs ss n σ ρ q lv (.int x :: st) := by
  subst e; exact fun hz H locs ls hW hS h => lv_tableIn hC.1 hC.2.1 d h1 h2 ho ht (k hz H locs ls hW hS h)
theorem g_tswD (hC : Cx X cc own L) {dflt lo hi : Int} {offs : Array Int} {len : Nat} {x : Int32} {tgt : Nat} (d : decode cc pc = .ok (.tableswitch dflt lo hi offs, len)) (e : q = pc) (h : x.toInt < lo ∨ hi < x.toInt) (ht : (pc : Int) + dflt = (tgt : Int)) (k : G X cs ss n σ ρ tgt lv st) : G X cs ss n σ ρ q lv (.int x :: st) := by
  subst e; exact fun hz H locs ls hW hS h' => lv_tableOut hC.1 hC.2.1 d h ht (k hz H locs ls hW hS h')
theorem g_tswK (hC : Cx X cc own L) {dflt lo hi : Int} {offs : Array Int} {len : Nat} {x k : Int32} {z off : Int} {tgt : Nat} (d : decode cc pc = .ok (.tableswitch dflt lo hi offs, len)) (e : q = pc) (hx : x = k) (hz0 : k.toInt = z) (h1 : ¬ z < lo) (h2 : ¬ hi < z) (ho : offs[(z - lo).toNat]? = some off) (ht : (pc : Int) + off = (tgt : Int)) (kk : G X cs ss n σ ρ tgt lv st) : G X cs ss n σ ρ q lv (.int x :: st) := by
  subst hx; subst hz0
  exact g_tsw hC d e h1 h2 ho ht kk
end MEM

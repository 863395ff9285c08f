/-! TEXT: what a line says; the class's lines -/
abbrev Er : Type := Int × Nat
def pSgn (T : Tp) (a : Nat) : Except Er (Int × Nat) :=
  let b := if tkd T a = 3 then nx T a else a
  if tkd T b ≠ 2 then .error (1, pl T b) else if 99 < vl T b then .error (2, pl T b) else .ok (if tkd T a = 3 then -(vl T b) else vl T b, nx T b)
def pSix (T : Tp) (a : Nat) : Nat → Except Er ((Nat → Int) × Nat)
  | 0 => .ok (fun _ => 0, a)
  | k + 1 => match pSix T a k with
    | .error e => .error e
    | .ok d => match pSgn T d.2 with
      | .error e => .error e
      | .ok x => .ok (vset d.1 k x.1, x.2)
def can (D : Sheet) (w : Nat) (x : Int) : Prop := if w = 0 then isPr x else if w = 1 then x < NP D.1 else x < 6
def mulV (v : Nat → Int) : Nat → Int := v6 (v 0 * v 3) (v 1 * v 4) (v 2 * v 5) (v 1 * v 5 + v 2 * v 4) (v 0 * v 5 + v 2 * v 3) (v 0 * v 4 + v 1 * v 3)
def putV (D : Sheet) (c : Nat) (v : Nat → Int) : Option Sheet := if zerB v then none else if limB v then some (setC D c v) else none
def carry (D : Sheet) (w : Nat) (x : Int) (v : Nat → Int) : Option Sheet :=
  if w = 0 then (if x.toNat = D.1 then some D else some (x.toNat, [], D.2.2))
  else if w = 1 then (match mkF D.2.1 x.toNat with | some _ => none | none => if D.2.1.length < 8 then some (D.1, D.2.1 ++ [x.toNat], D.2.2) else none)
  else if w = 3 then putV D x.toNat (mulV v)
  else putV D x.toNat v
noncomputable def pEnd (T : Tp) (D : Sheet) (a w : Nat) (x : Int) (r : Except Er ((Nat → Int) × Nat)) : Except Er (Sheet × Nat) :=
  match r with
  | .error e => .error e
  | .ok d => if tkd T d.2 ≠ 4 then .error (1, pl T d.2) else match carry D w x d.1 with
    | none => .error (3, pl T a)
    | some D' => .ok (D', nx T d.2)
noncomputable def pLine (T : Tp) (D : Sheet) (a : Nat) : Except Er (Sheet × Nat) :=
  match wkO T a with
  | none => .error (1, pl T a)
  | some w => if tkd T (nx T a) ≠ 2 then .error (1, pl T (nx T a)) else cs (can D w (vl T (nx T a))) (pEnd T D a w (vl T (nx T a)) (if w = 2 ∨ w = 3 then pSix T (nx T (nx T a)) 6 else .ok (fun _ => 0, nx T (nx T a)))) (.error (2, pl T (nx T a)))
theorem vl_bd {T : Tp} {a : Nat} (ha : a ≤ T.2) (h : tkd T a = 2) : 0 ≤ vl T a ∧ vl T a ≤ 999 := by
  unfold vl
  have c : ¬ bb T a = -1 ∧ ltr (bb T a) = false ∧ dig (bb T a) = true := by
    unfold tkd at h
    by_cases c0 : bb T a = -1
    · rw [if_pos c0] at h; cases h
    · rw [if_neg c0] at h
      cases c1 : ltr (bb T a) with
      | true => rw [c1, if_pos rfl] at h; cases h
      | false =>
        cases c2 : dig (bb T a) with
        | true => exact ⟨c0, rfl, rfl⟩
        | false =>
          rw [c1, c2, if_neg (by decide), if_neg (by decide)] at h
          exfalso
          repeat' split at h
          all_goals cases h
  have n0 : nx T a = en dig T (pl T a) := by unfold nx; rw [if_neg c.1, if_neg (by rw [c.2.1]; decide), if_pos c.2.2]
  refine dec_bd (fun i h1 h2 => en_all (pl_le ha).2 i h1 ?_) (by omega)
  have := (nx_le ha).1
  omega
theorem pSix_v {T : Tp} {a k : Nat} {d : (Nat → Int) × Nat} (h : pSix T a k = .ok d) (ha : a ≤ T.2) : (a ≤ d.2 ∧ d.2 ≤ T.2) ∧ ∀ i, bd (d.1 i) 99 := by
  induction k generalizing d with
  | zero =>
    unfold pSix at h
    cases h
    exact ⟨⟨Nat.le_refl _, ha⟩, fun _ => ⟨by dsimp only; omega, by dsimp only; omega⟩⟩
  | succ k ih =>
    unfold pSix at h
    cases e : pSix T a k with
    | error z => rw [e] at h; cases h
    | ok d' =>
      rw [e] at h
      have ⟨⟨q1, q2⟩, q3⟩ := ih e
      dsimp only at h
      cases e2 : pSgn T d'.2 with
      | error z => rw [e2] at h; cases h
      | ok x =>
        rw [e2] at h
        cases h
        unfold pSgn at e2
        dsimp only at e2
        have hb : (if tkd T d'.2 = 3 then nx T d'.2 else d'.2) ≤ T.2 ∧ d'.2 ≤ (if tkd T d'.2 = 3 then nx T d'.2 else d'.2) := by
          by_cases c : tkd T d'.2 = 3
          · rw [if_pos c]; exact ⟨(nx_le q2).2, by have := (nx_le q2).1; have := (pl_le q2).1; omega⟩
          · rw [if_neg c]; exact ⟨q2, Nat.le_refl _⟩
        generalize (if tkd T d'.2 = 3 then nx T d'.2 else d'.2) = b at e2 hb
        by_cases c1 : tkd T b ≠ 2
        · rw [if_pos c1] at e2; cases e2
        · rw [if_neg c1] at e2
          by_cases c2 : 99 < vl T b
          · rw [if_pos c2] at e2; cases e2
          · rw [if_neg c2] at e2
            have hv := vl_bd hb.1 (Classical.byContradiction fun z => c1 z)
            cases e2
            refine ⟨⟨?_, (nx_le hb.1).2⟩, fun i => ?_⟩
            · have := (nx_le hb.1).1
              have := (pl_le hb.1).1
              show a ≤ nx T b
              omega
            · show bd (vset d'.1 k _ i) 99
              unfold vset
              by_cases c : i = k
              · rw [if_pos c]
                dsimp only
                by_cases c3 : tkd T d'.2 = 3
                · rw [if_pos c3]; exact ⟨by omega, by omega⟩
                · rw [if_neg c3]; exact ⟨by omega, by omega⟩
              · rw [if_neg c]; exact q3 i
theorem pSix_er {T : Tp} {a k n : Nat} {e : Er} (h : pSix T a k = .error e) (hn : k ≤ n) : pSix T a n = .error e := by
  induction n with
  | zero => rw [show k = 0 by omega] at h; exact h
  | succ n ih =>
    by_cases c : k = n + 1
    · rw [← c]; exact h
    · unfold pSix
      rw [ih (by omega)]
/-- the class's fields -/
def RK (k i : Nat) : Prop := (k = 53 ∧ 1 ≤ i) ∨ (54 ≤ k ∧ k ≤ 58)
def RJ (k i : Nat) : Prop := (k = 53 ∧ 5 ≤ i) ∨ (54 ≤ k ∧ k ≤ 58)
theorem rj_53 {σ s : Sto} (h : Fr R53 σ s) : Fr RJ σ s := h.mo (fun k i h => by unfold R53 at h; unfold RJ; omega)
theorem rk_rj {σ s : Sto} (h : Fr RJ σ s) : Fr RK σ s := h.mo (fun k i h => by unfold RJ at h; unfold RK; omega)
theorem CX_rj {σ s : Sto} {T : Tp} (h : CXr σ T) (e : Fr RJ σ s) : CXr s T := CX_k h (fun k i hk => e k i (by unfold RJ; omega))
theorem c_fail {σ σ0 : Sto} {f p : Nat} {c q : Int32} (hc : c = iI f) (hq : q = iI p) (hf : Fr RJ σ0 σ) : OK (MX7_fail σ 53 c q) (fun o => o.1 = 0 ∧ o.2 53 1 = iI f ∧ o.2 53 2 = iI p ∧ Fr RK σ0 o.2) := by
  unfold MX7_fail
  rw [bn_eq, bn_eq, zr0]
  have e1 : su (su σ 53 1 c) 53 2 q 53 1 = iI f := by rw [su_i (by decide), su_s]; exact hc
  have e2 : su (su σ 53 1 c) 53 2 q 53 2 = iI p := by rw [su_s]; exact hq
  exact OK.so ⟨rfl, e1, e2, ((rk_rj hf).tr (Fr.su (by unfold RK; omega))).tr (Fr.su (by unfold RK; omega))⟩
def LQ (σ : Sto) (r : Except Er (Sheet × Nat)) (o : Int32 × Sto) : Prop := match r with
  | .error e => o.1 = 0 ∧ o.2 53 1 = iI e.1 ∧ o.2 53 2 = iI e.2 ∧ Fr RK σ o.2
  | .ok d => o.1 = 1 ∧ CS o.2 54 d.1 ∧ o.2 53 5 = iI d.2 ∧ Fr RJ σ o.2
def SQ (σ : Sto) (r : Except Er ((Nat → Int) × Nat)) (o : Int32 × Sto) : Prop := match r with
  | .error e => o.1 = 0 ∧ o.2 53 1 = iI e.1 ∧ o.2 53 2 = iI e.2 ∧ Fr RK σ o.2
  | .ok d => o.1 = 1 ∧ FI o.2 57 d.1 ∧ o.2 53 5 = iI d.2 ∧ Fr RJ σ o.2 ∧ ∀ i, o.2 54 i = σ 54 i ∧ o.2 55 i = σ 55 i ∧ o.2 56 i = σ 56 i
theorem wr0 {o : Option (Int32 × Sto)} {Q : Int32 × Sto → Prop} (h : OK o Q) (h0 : ∀ a, Q a → a.1 = 0) : OK (Option.bind o fun c => zr c.1 (some (c.1, c.2))) Q := OK.bi h (fun a ha => by rw [h0 a ha, zr0]; exact OK.so (by rw [← h0 a ha]; exact ha))
theorem c_six {σ : Sto} {ρ : Rho} {T : Tp} {a : Nat} (hD : Dk ρ) (hT : TOK T) (h : CXr σ T) (ha : a ≤ T.2) (h5 : σ 53 5 = iI a) : OK (MX7_readSix σ ρ 53 5) (SQ σ (pSix T a 6)) := by
  unfold MX7_readSix
  rw [bn_eq]
  refine run_g (S := Sto × ((Nat → Int) × Nat)) (call := fun (g : Sto → Int32 → Option (Int32 × Sto)) s (k : Nat) => g s.1 (iI k)) (N := 6) (I := fun k s => pSix T a k = .ok s.2 ∧ s.1 53 5 = iI s.2.2 ∧ (∀ i, i < k → s.1 57 i = iI (s.2.1 i)) ∧ Fr RJ σ s.1 ∧ ∀ i, s.1 54 i = σ 54 i ∧ s.1 55 i = σ 55 i ∧ s.1 56 i = σ 56 i) (Post := fun o => OK o (SQ σ (pSix T a 6))) ?_ ?_ (by unfold FU; omega) (k0 := 0) (by omega) (s := (σ, ((fun _ => 0), a))) ⟨rfl, h5, fun i hi => by omega, Fr.rf, fun i => ⟨rfl, rfl, rfl⟩⟩
  · intro g ⟨s, d⟩ ⟨i1, i2, i3, i4, i5⟩
    show OK (FX7_readSix_2 ρ 53 5 (BX7_readSix_44 ρ 53 5) (BX7_readSix_63 ρ 53 5) g s (iI (6 : Nat))) _
    unfold FX7_readSix_2
    rw [if_pos (by decide), zr1, i1]
    exact OK.so ⟨rfl, i3, i2, i4, i5⟩
  · intro g ⟨s, d⟩ k ⟨i1, i2, i3, i4, i5⟩ hk ih
    have hd := (pSix_v i1 ha).1
    show OK (FX7_readSix_2 ρ 53 5 (BX7_readSix_44 ρ 53 5) (BX7_readSix_63 ρ 53 5) g s (iI k)) _
    dsimp only at i1 i2 i3 i4 i5 hd
    have hs : pSix T a (k + 1) = (match pSgn T d.2 with | .error e => .error e | .ok x => .ok (vset d.1 k x.1, x.2)) := by
      rw [pSix, i1]
    unfold FX7_readSix_2
    rw [if_neg (by rw [w6, iI_leN (by omega) (by omega)]; omega)]
    refine OK.bi (c_advance hD hT (CX_rj h i4) hd.2 i2) ?_
    intro s1 ⟨g1, g2⟩
    have f1 : Fr RJ σ s1 := i4.tr (rj_53 g2)
    have o1 : ∀ k i, 54 ≤ k → s1 k i = s k i := fun k i hk => g2 k i (by unfold R53; omega)
    -- the number itself
    have N : ∀ (b : Nat) (s2 : Sto) (v3 : Int32) (ng : Prop), b = (if tkd T d.2 = 3 then nx T d.2 else d.2) → b ≤ T.2 → TC s2 T b → Fr RJ σ s2 → (∀ k i, 54 ≤ k → s2 k i = s k i) → (v3 = 0 ↔ ¬ tkd T d.2 = 3) → OK (BX7_readSix_36 ρ 53 5 g (BX7_readSix_44 ρ 53 5) (BX7_readSix_63 ρ 53 5) s2 (iI k) v3) (SQ σ (pSix T a 6)) := by
      intro b s2 v3 ng hb hb2 t1 f2 o2 hv3
      have hk5 := @tkd_le T b
      have es : pSgn T d.2 = (if tkd T b ≠ 2 then .error (1, pl T b) else if 99 < vl T b then .error (2, pl T b) else .ok (if tkd T d.2 = 3 then -(vl T b) else vl T b, nx T b)) := by
        unfold pSgn; rw [← hb]
      unfold BX7_readSix_36
      rw [t1.2.1]
      by_cases c1 : tkd T b = 2
      · rw [if_pos (by rw [c1]; rfl), t1.2.2.2 c1]
        have hv := vl_bd hb2 c1
        rw [if_neg (by omega)] at es
        by_cases c2 : 99 < vl T b
        · rw [if_neg (by rw [show (99 : Int32) = iI 99 from rfl, iI_le ⟨by omega, by omega⟩ ⟨by omega, by omega⟩]; omega)]
          rw [if_pos c2] at es
          rw [es] at hs
          unfold BX7_readSix_63
          rw [pSix_er hs (by omega)]
          exact wr0 (c_fail (f := 2) (p := pl T b) rfl t1.2.2.1 f2) (fun a h => h.1)
        · rw [if_pos (by rw [show (99 : Int32) = iI 99 from rfl, iI_le ⟨by omega, by omega⟩ ⟨by omega, by omega⟩]; omega), dk_53_3 hD, ob_some]
          rw [if_neg c2] at es
          rw [es] at hs
          have fin : ∀ x : Int, x = (if tkd T d.2 = 3 then -(vl T b) else vl T b) → OK (BX7_readSix_94 ρ 53 5 g (BX7_readSix_44 ρ 53 5) (BX7_readSix_63 ρ 53 5) s2 (iI k) 57 (iI k) (iI x)) (SQ σ (pSix T a 6)) := by
            intro x hx
            unfold BX7_readSix_94
            rw [c_change hk, ob_some, bn_eq, iI_succ]
            refine ih (su s2 57 k (iI x), (vset d.1 k x, nx T b)) ⟨by rw [hs, ← hx], ?_, fun i hi => ?_, f2.tr (Fr.su (by unfold RJ; omega)), fun i => ?_⟩
            · show su s2 57 k (iI x) 53 5 = _
              rw [su_k (by decide)]; exact t1.1
            · show su s2 57 k (iI x) 57 i = iI (vset d.1 k x i)
              unfold vset
              by_cases q : i = k
              · subst q; rw [su_s, if_pos rfl]
              · rw [su_i q, if_neg q, o2 57 i (by omega)]; exact i3 i (by omega)
            · dsimp only
              rw [su_k (by decide), su_k (by decide), su_k (by decide), o2 54 i (by omega), o2 55 i (by omega), o2 56 i (by omega)]
              exact i5 i
          by_cases c3 : tkd T d.2 = 3
          · rw [if_neg (fun z => (hv3.mp z) c3), iI_neg]
            exact fin _ (by rw [if_pos c3])
          · rw [if_pos (hv3.mpr c3)]
            exact fin _ (by rw [if_neg c3])
      · rw [if_neg (by rw [w2, iI_eqN (by omega) (by omega)]; exact c1)]
        rw [if_pos c1] at es
        rw [es] at hs
        unfold BX7_readSix_44
        rw [pSix_er hs (by omega)]
        exact wr0 (c_fail (f := 1) (p := pl T b) rfl t1.2.2.1 f2) (fun a h => h.1)
    have hk5 := @tkd_le T d.2
    unfold BX7_readSix_26
    rw [g1.2.1]
    by_cases c3 : tkd T d.2 = 3
    · have hnx := nx_le hd.2
      rw [if_pos (by rw [c3]; rfl), bn_eq, if_neg ne10]
      refine OK.bi (c_advance hD hT (CX_rj h f1) hnx.2 g1.1) ?_
      intro s2 ⟨k1, k2⟩
      exact N (nx T d.2) s2 1 True (by rw [if_pos c3]) hnx.2 k1 (f1.tr (rj_53 k2)) (fun k i hk => (k2 k i (by unfold R53; omega)).trans (o1 k i hk)) ⟨fun z => absurd z (by decide), fun z => absurd c3 z⟩
    · rw [if_neg (by rw [w3, iI_eqN (by omega) (by omega)]; exact c3), bn_eq, if_pos rfl]
      exact N d.2 s1 0 True (by rw [if_neg c3]) hd.2 g1 f1 o1 ⟨fun _ => c3, fun _ => rfl⟩

/-! THE LAW: a step -/
theorem AOK_cs {P : Prop} {x y : Int32 × AS} (hx : P → AOK x.2) (hy : ¬ P → AOK y.2) : AOK (cs P x y).2 := by
  by_cases c : P
  · rw [cs_pos c]; exact hx c
  · rw [cs_neg c]; exact hy c
theorem tn6 {c : Int} (h : inC c) : c.toNat < 6 := by unfold inC at h; omega
theorem AOK_set {A : AS} {c i v : Int} (h : AOK A) : AOK (aSet A c i v).2 := AOK_cs (fun p => AOK_cs (fun _ => AOK_ref h _ _) (fun _ => AOK_bec h (tn6 p.1))) (fun _ => AOK_ref h _ _)
theorem AOK_sum {A : AS} {c a x b y : Int} (h : AOK A) : AOK (aSum A c a x b y).2 := AOK_cs (fun p => AOK_bec h (tn6 p.1)) (fun _ => AOK_ref h _ _)
theorem AOK_turn {A : AS} {c a : Int} (h : AOK A) : AOK (aTurn A c a).2 := AOK_cs (fun p => AOK_cs (fun _ => AOK_bec h (tn6 p.1)) (fun _ => AOK_ref h _ _)) (fun _ => AOK_ref h _ _)
theorem AOK_twist {A : AS} {c w : Int} (h : AOK A) : AOK (aTwist A c w).2 := AOK_cs (fun p => AOK_cs (fun _ => AOK_ref h _ _) (fun _ => AOK_bec h (tn6 p.1))) (fun _ => AOK_ref h _ _)
theorem AOK_thru {A : AS} {c : Int} (h : AOK A) : AOK (aThru A c).2 := AOK_cs (fun p => AOK_cs (fun _ => AOK_bec h (tn6 p)) (fun _ => AOK_ref h _ _)) (fun _ => AOK_ref h _ _)
theorem AOK_prime {A : AS} {x : Int} (h : AOK A) : AOK (aPrime A x).2 := AOK_cs (fun p => AOK_cs (fun _ => AOK_ref h _ _) (fun _ => AOK_acc h (SOK_pr h.1.1 p))) (fun _ => AOK_ref h _ _)
theorem AOK_mark {A : AS} {q : Int} {b : Bool} (h : AOK A) : AOK (aMark A q b).2 := by
  unfold aMark
  refine AOK_cs (fun p => ?_) (fun _ => AOK_ref h _ _)
  cases b with
  | true =>
    rw [if_pos rfl]
    cases hk : mkF A.1.1.2.1 q.toNat with
    | some k => exact AOK_acc h (SOK_er h.1.1)
    | none => exact AOK_ref h _ _
  | false =>
    rw [if_neg (show ¬ (false = true) by decide)]
    cases hk : mkF A.1.1.2.1 q.toNat with
    | some k => exact AOK_ref h _ _
    | none =>
      dsimp only
      by_cases c : A.1.1.2.1.length < 8
      · rw [if_pos c]
        refine AOK_acc h (SOK_add h.1.1 c (by unfold inP at p; omega) (fun z => ?_))
        have := mkF_mem.mpr z
        rw [hk] at this
        cases this
      · rw [if_neg c]; exact AOK_ref h _ _
section LAWSTEP
variable {sl : Nat} {sc : Nat → Int32} {rec : Sto → Rho → Nat → Nat → Int32 → Option Int32} {σ : Sto} {ρ : Rho} {A : AS} {v3 : Int32}
theorem nxt (ih : ∀ σ' ρ' A', Rel σ' ρ' A' → rec σ' ρ' 0 92 (v3 + 6) = some 1) (hR : Rel σ ρ A) : BL_law_1271 sl sc rec σ ρ 0 92 v3 = some 1 := by
  unfold BL_law_1271
  rw [bn_eq]; exact ih _ _ _ hR
theorem act {a : Int32 × AS} {o1 : Option (Int32 × Sto)} {f : Sto → Option (Int32 × Sto)} (ih : ∀ σ' ρ' A', Rel σ' ρ' A' → rec σ' ρ' 0 92 (v3 + 6) = some 1) (hR : Rel σ ρ A) (hk : OK o1 (Kq σ a)) (hA : AOK a.2) (hm : ∀ s, MR s A → OK (f s) (Mq s a)) : (Option.bind o1 fun c => Option.bind (f c.2) fun d => if c.1 = d.1 then BL_law_1271 sl sc rec d.2 ρ 0 92 v3 else some (0 : Int32)) = some 1 := by
  obtain ⟨⟨x, s⟩, rfl, q1, q2, q3⟩ := hk
  rw [ob_some]
  obtain ⟨⟨y, t⟩, e, p1, p2, p3⟩ := hm s (MR_cl hR.2.2.2.1 hR.2.2.2.2.2 q3)
  dsimp only at q1 q2 q3 p1 p2 p3 ⊢
  rw [e, ob_some, if_pos (q1.trans p1.symm)]
  exact nxt ih ⟨hR.1, hR.2.1, hR.2.2.1, hA, KR_ml q2 p3, p2⟩
theorem actR {a : Int32 × AS} {o1 : Option (Int32 × Sto × Rho)} {f : Sto → Rho → Option (Int32 × Sto)} (ih : ∀ σ' ρ' A', Rel σ' ρ' A' → rec σ' ρ' 0 92 (v3 + 6) = some 1) (hR : Rel σ ρ A) (hk : OK o1 (fun o => Kq σ a (o.1, o.2.1) ∧ RFr ρ o.2.2 ∧ Pm o.2.2)) (hA : AOK a.2) (hm : ∀ s ρ', Md ρ' → MR s A → OK (f s ρ') (Mq s a)) : (Option.bind o1 fun c => Option.bind (f c.2.1 c.2.2) fun d => if c.1 = d.1 then BL_law_1271 sl sc rec d.2 c.2.2 0 92 v3 else some (0 : Int32)) = some 1 := by
  obtain ⟨⟨x, s, ρ'⟩, rfl, ⟨q1, q2, q3⟩, q4, q5⟩ := hk
  rw [ob_some]
  dsimp only at q1 q2 q3 q4 q5
  obtain ⟨⟨y, t⟩, e, p1, p2, p3⟩ := hm s ρ' (hR.2.1.fr q4) (MR_cl hR.2.2.2.1 hR.2.2.2.2.2 q3)
  dsimp only at p1 p2 p3 ⊢
  rw [e, ob_some, if_pos (q1.trans p1.symm)]
  exact nxt ih ⟨hR.1.fr q4, hR.2.1.fr q4, q5, hA, KR_ml q2 p3, p2⟩
theorem qry {q : Int32} {o1 : Option (Int32 × Sto)} {f : Sto → Option (Int32 × Sto)} (ih : ∀ σ' ρ' A', Rel σ' ρ' A' → rec σ' ρ' 0 92 (v3 + 6) = some 1) (hR : Rel σ ρ A) (hk : OK o1 (fun o => o.1 = q ∧ Fr SC σ o.2)) (hm : ∀ s, Rel s ρ A → OK (f s) (fun o => o.1 = q ∧ Fr SC s o.2)) : (Option.bind o1 fun c => Option.bind (f c.2) fun d => if c.1 = d.1 then BL_law_1271 sl sc rec d.2 ρ 0 92 v3 else some (0 : Int32)) = some 1 := by
  obtain ⟨⟨x, s⟩, rfl, q1, q2⟩ := hk
  rw [ob_some]
  dsimp only at q1 q2
  have h1 := hR.sc q2 RFr.rf hR.2.2.1
  obtain ⟨⟨y, t⟩, e, p1, p2⟩ := hm s h1
  dsimp only at p1 p2 ⊢
  rw [e, ob_some, if_pos (q1.trans p1.symm)]
  exact nxt ih (h1.sc p2 RFr.rf h1.2.2.1)
theorem qryR {q : Int32} {o1 : Option (Int32 × Sto × Rho)} {f : Sto → Rho → Option (Int32 × Sto)} (ih : ∀ σ' ρ' A', Rel σ' ρ' A' → rec σ' ρ' 0 92 (v3 + 6) = some 1) (hR : Rel σ ρ A) (hk : OK o1 (fun o => o.1 = q ∧ Fr SC σ o.2.1 ∧ RFr ρ o.2.2 ∧ Pm o.2.2)) (hm : ∀ s ρ', Rel s ρ' A → OK (f s ρ') (fun o => o.1 = q ∧ Fr SC s o.2)) : (Option.bind o1 fun c => Option.bind (f c.2.1 c.2.2) fun d => if c.1 = d.1 then BL_law_1271 sl sc rec d.2 c.2.2 0 92 v3 else some (0 : Int32)) = some 1 := by
  obtain ⟨⟨x, s, ρ'⟩, rfl, q1, q2, q3, q4⟩ := hk
  rw [ob_some]
  dsimp only at q1 q2 q3 q4
  have h1 := hR.sc q2 q3 q4
  obtain ⟨⟨y, t⟩, e, p1, p2⟩ := hm s ρ' h1
  dsimp only at p1 p2 ⊢
  rw [e, ob_some, if_pos (q1.trans p1.symm)]
  exact nxt ih (h1.sc p2 RFr.rf h1.2.2.1)
theorem L180 {z : Nat → Int} (hz : ∀ j, rg32 (z j)) (h1 : sg sl sc (v3 + 1) = some (iI (z 1))) (h2 : sg sl sc (v3 + 2) = some (iI (z 2))) (h3 : sg sl sc (v3 + 3) = some (iI (z 3))) (h4 : sg sl sc (v3 + 4) = some (iI (z 4))) (h5 : sg sl sc (v3 + 5) = some (iI (z 5))) (ih : ∀ σ' ρ' A', Rel σ' ρ' A' → rec σ' ρ' 0 92 (v3 + 6) = some 1) (hR : Rel σ ρ A) : BL_law_180 sl sc rec σ ρ 0 92 v3 = some 1 := by
  unfold BL_law_180
  simp only [h1, h2, h3, h4, h5, ob_some]
  exact act (f := fun s => MX12_feed s ρ 92 (iI (z 1)) (iI (z 2)) (iI (z 3)) (iI (z 4)) (iI (z 5))) ih hR (k_feed hR.1 hR.2.2.2.1 hR.2.2.2.2.1) (AOK_feed hR.2.2.2.1) (fun s hs => m_feed hR.2.1 hR.2.2.2.1 hs)
theorem L243 {z : Nat → Int} (hz : ∀ j, rg32 (z j)) (h1 : sg sl sc (v3 + 1) = some (iI (z 1))) (h2 : sg sl sc (v3 + 2) = some (iI (z 2))) (h3 : sg sl sc (v3 + 3) = some (iI (z 3))) (h4 : sg sl sc (v3 + 4) = some (iI (z 4))) (h5 : sg sl sc (v3 + 5) = some (iI (z 5))) (ih : ∀ σ' ρ' A', Rel σ' ρ' A' → rec σ' ρ' 0 92 (v3 + 6) = some 1) (hR : Rel σ ρ A) : BL_law_243 sl sc rec σ ρ 0 92 v3 = some 1 := by
  unfold BL_law_243
  simp only [h1, ob_some]
  exact act (f := fun s => MX12_end s 92 (iI (z 1))) ih hR (k_end hR.1 hR.2.2.2.1 hR.2.2.2.2.1 (hz 1)) (AOK_end hR.2.2.2.1) (fun s hs => m_end hR.2.2.2.1 hs (hz 1))
theorem L302 {z : Nat → Int} (hz : ∀ j, rg32 (z j)) (h1 : sg sl sc (v3 + 1) = some (iI (z 1))) (h2 : sg sl sc (v3 + 2) = some (iI (z 2))) (h3 : sg sl sc (v3 + 3) = some (iI (z 3))) (h4 : sg sl sc (v3 + 4) = some (iI (z 4))) (h5 : sg sl sc (v3 + 5) = some (iI (z 5))) (ih : ∀ σ' ρ' A', Rel σ' ρ' A' → rec σ' ρ' 0 92 (v3 + 6) = some 1) (hR : Rel σ ρ A) : BL_law_302 sl sc rec σ ρ 0 92 v3 = some 1 := by
  unfold BL_law_302
  simp only [h1, ob_some]
  exact act (f := fun s => MX12_prime s ρ 92 (iI (z 1))) ih hR (k_prime hR.1 hR.2.2.2.1 hR.2.2.2.2.1 (hz 1)) (AOK_prime hR.2.2.2.1) (fun s hs => m_prime hR.2.1 hR.2.2.2.1 hs (hz 1))
theorem L325 {z : Nat → Int} (hz : ∀ j, rg32 (z j)) (h1 : sg sl sc (v3 + 1) = some (iI (z 1))) (h2 : sg sl sc (v3 + 2) = some (iI (z 2))) (h3 : sg sl sc (v3 + 3) = some (iI (z 3))) (h4 : sg sl sc (v3 + 4) = some (iI (z 4))) (h5 : sg sl sc (v3 + 5) = some (iI (z 5))) (ih : ∀ σ' ρ' A', Rel σ' ρ' A' → rec σ' ρ' 0 92 (v3 + 6) = some 1) (hR : Rel σ ρ A) : BL_law_325 sl sc rec σ ρ 0 92 v3 = some 1 := by
  unfold BL_law_325
  simp only [h1, h2, h3, ob_some]
  exact act (f := fun s => MX12_set s ρ 92 (iI (z 1)) (iI (z 2)) (iI (z 3))) ih hR (k_set hR.1 hR.2.2.2.1 hR.2.2.2.2.1 (hz 1) (hz 2) (hz 3)) (AOK_set hR.2.2.2.1) (fun s hs => m_set hR.2.1 hR.2.2.2.1 hs (hz 1) (hz 2) (hz 3))
theorem L368 {z : Nat → Int} (hz : ∀ j, rg32 (z j)) (h1 : sg sl sc (v3 + 1) = some (iI (z 1))) (h2 : sg sl sc (v3 + 2) = some (iI (z 2))) (h3 : sg sl sc (v3 + 3) = some (iI (z 3))) (h4 : sg sl sc (v3 + 4) = some (iI (z 4))) (h5 : sg sl sc (v3 + 5) = some (iI (z 5))) (ih : ∀ σ' ρ' A', Rel σ' ρ' A' → rec σ' ρ' 0 92 (v3 + 6) = some 1) (hR : Rel σ ρ A) : BL_law_368 sl sc rec σ ρ 0 92 v3 = some 1 := by
  unfold BL_law_368
  simp only [h1, h2, h3, h4, h5, ob_some]
  exact act (f := fun s => MX12_sum s ρ 92 (iI (z 1)) (iI (z 2)) (iI (z 3)) (iI (z 4)) (iI (z 5))) ih hR (k_sum hR.1 hR.2.2.2.1 hR.2.2.2.2.1 (hz 1) (hz 2) (hz 3) (hz 4) (hz 5)) (AOK_sum hR.2.2.2.1) (fun s hs => m_sum hR.2.1 hR.2.2.2.1 hs (hz 1) (hz 2) (hz 3) (hz 4) (hz 5))
theorem L431 {z : Nat → Int} (hz : ∀ j, rg32 (z j)) (h1 : sg sl sc (v3 + 1) = some (iI (z 1))) (h2 : sg sl sc (v3 + 2) = some (iI (z 2))) (h3 : sg sl sc (v3 + 3) = some (iI (z 3))) (h4 : sg sl sc (v3 + 4) = some (iI (z 4))) (h5 : sg sl sc (v3 + 5) = some (iI (z 5))) (ih : ∀ σ' ρ' A', Rel σ' ρ' A' → rec σ' ρ' 0 92 (v3 + 6) = some 1) (hR : Rel σ ρ A) : BL_law_431 sl sc rec σ ρ 0 92 v3 = some 1 := by
  unfold BL_law_431
  simp only [h1, h2, ob_some]
  exact act (f := fun s => MX12_turn s ρ 92 (iI (z 1)) (iI (z 2))) ih hR (k_turn hR.1 hR.2.2.2.1 hR.2.2.2.2.1 (hz 1) (hz 2)) (AOK_turn hR.2.2.2.1) (fun s hs => m_turn hR.2.1 hR.2.2.2.1 hs (hz 1) (hz 2))
theorem L464 {z : Nat → Int} (hz : ∀ j, rg32 (z j)) (h1 : sg sl sc (v3 + 1) = some (iI (z 1))) (h2 : sg sl sc (v3 + 2) = some (iI (z 2))) (h3 : sg sl sc (v3 + 3) = some (iI (z 3))) (h4 : sg sl sc (v3 + 4) = some (iI (z 4))) (h5 : sg sl sc (v3 + 5) = some (iI (z 5))) (ih : ∀ σ' ρ' A', Rel σ' ρ' A' → rec σ' ρ' 0 92 (v3 + 6) = some 1) (hR : Rel σ ρ A) : BL_law_464 sl sc rec σ ρ 0 92 v3 = some 1 := by
  unfold BL_law_464
  simp only [h1, h2, ob_some]
  exact act (f := fun s => MX12_twist s ρ 92 (iI (z 1)) (iI (z 2))) ih hR (k_twist hR.1 hR.2.2.2.1 hR.2.2.2.2.1 (hz 1) (hz 2)) (AOK_twist hR.2.2.2.1) (fun s hs => m_twist hR.2.1 hR.2.2.2.1 hs (hz 1) (hz 2))
theorem L592 {z : Nat → Int} (hz : ∀ j, rg32 (z j)) (h1 : sg sl sc (v3 + 1) = some (iI (z 1))) (h2 : sg sl sc (v3 + 2) = some (iI (z 2))) (h3 : sg sl sc (v3 + 3) = some (iI (z 3))) (h4 : sg sl sc (v3 + 4) = some (iI (z 4))) (h5 : sg sl sc (v3 + 5) = some (iI (z 5))) (ih : ∀ σ' ρ' A', Rel σ' ρ' A' → rec σ' ρ' 0 92 (v3 + 6) = some 1) (hR : Rel σ ρ A) : BL_law_592 sl sc rec σ ρ 0 92 v3 = some 1 := by
  unfold BL_law_592
  exact act (f := fun s => MX12_undo s ρ 92 ) ih hR (k_undo hR.1 hR.2.2.2.1 hR.2.2.2.2.1) (AOK_undo hR.2.2.2.1) (fun s hs => m_undo hR.2.1 hR.2.2.2.1 hs)
theorem L1225 {z : Nat → Int} (hz : ∀ j, rg32 (z j)) (h1 : sg sl sc (v3 + 1) = some (iI (z 1))) (h2 : sg sl sc (v3 + 2) = some (iI (z 2))) (h3 : sg sl sc (v3 + 3) = some (iI (z 3))) (h4 : sg sl sc (v3 + 4) = some (iI (z 4))) (h5 : sg sl sc (v3 + 5) = some (iI (z 5))) (ih : ∀ σ' ρ' A', Rel σ' ρ' A' → rec σ' ρ' 0 92 (v3 + 6) = some 1) (hR : Rel σ ρ A) : BL_law_1225 sl sc rec σ ρ 0 92 v3 = some 1 := by
  unfold BL_law_1225
  simp only [h1, ob_some]
  exact act (f := fun s => MX12_image s ρ 92 (iI (z 1))) ih hR (k_image hR.1 hR.2.2.2.1 hR.2.2.2.2.1 (hz 1)) (AOK_image hR.2.2.2.1) (fun s hs => m_image hR.2.1 hR.2.2.2.1 hs (hz 1))
theorem L1248 {z : Nat → Int} (hz : ∀ j, rg32 (z j)) (h1 : sg sl sc (v3 + 1) = some (iI (z 1))) (h2 : sg sl sc (v3 + 2) = some (iI (z 2))) (h3 : sg sl sc (v3 + 3) = some (iI (z 3))) (h4 : sg sl sc (v3 + 4) = some (iI (z 4))) (h5 : sg sl sc (v3 + 5) = some (iI (z 5))) (ih : ∀ σ' ρ' A', Rel σ' ρ' A' → rec σ' ρ' 0 92 (v3 + 6) = some 1) (hR : Rel σ ρ A) : BL_law_1248 sl sc rec σ ρ 0 92 v3 = some 1 := by
  unfold BL_law_1248
  simp only [h1, ob_some]
  exact act (f := fun s => MX12_again s ρ 92 (iI (z 1))) ih hR (k_again hR.1 hR.2.2.2.1 hR.2.2.2.2.1 (hz 1)) (AOK_again hR.2.2.2.1) (fun s hs => m_again hR.2.1 hR.2.2.2.1 hs (hz 1))
theorem L628 {z : Nat → Int} (hz : ∀ j, rg32 (z j)) (h1 : sg sl sc (v3 + 1) = some (iI (z 1))) (h2 : sg sl sc (v3 + 2) = some (iI (z 2))) (h3 : sg sl sc (v3 + 3) = some (iI (z 3))) (h4 : sg sl sc (v3 + 4) = some (iI (z 4))) (h5 : sg sl sc (v3 + 5) = some (iI (z 5))) (ih : ∀ σ' ρ' A', Rel σ' ρ' A' → rec σ' ρ' 0 92 (v3 + 6) = some 1) (hR : Rel σ ρ A) : BL_law_628 sl sc rec σ ρ 0 92 v3 = some 1 := by
  unfold BL_law_628
  simp only [h1, h2, ob_some]
  exact qry (f := fun s => MX12_conic s ρ 92 (iI (z 1)) (iI (z 2))) ih hR (k_conic hR.qv (hz 1) (hz 2)) (fun s hs => m_conic hs.qv (hz 1) (hz 2))
theorem L661 {z : Nat → Int} (hz : ∀ j, rg32 (z j)) (h1 : sg sl sc (v3 + 1) = some (iI (z 1))) (h2 : sg sl sc (v3 + 2) = some (iI (z 2))) (h3 : sg sl sc (v3 + 3) = some (iI (z 3))) (h4 : sg sl sc (v3 + 4) = some (iI (z 4))) (h5 : sg sl sc (v3 + 5) = some (iI (z 5))) (ih : ∀ σ' ρ' A', Rel σ' ρ' A' → rec σ' ρ' 0 92 (v3 + 6) = some 1) (hR : Rel σ ρ A) : BL_law_661 sl sc rec σ ρ 0 92 v3 = some 1 := by
  unfold BL_law_661
  simp only [h1, h2, ob_some]
  exact qry (f := fun s => MX12_place s ρ 92 (iI (z 1)) (iI (z 2))) ih hR (k_place hR.qv (hz 1) (hz 2)) (fun s hs => m_place hs.qv (hz 1) (hz 2))
theorem L694 {z : Nat → Int} (hz : ∀ j, rg32 (z j)) (h1 : sg sl sc (v3 + 1) = some (iI (z 1))) (h2 : sg sl sc (v3 + 2) = some (iI (z 2))) (h3 : sg sl sc (v3 + 3) = some (iI (z 3))) (h4 : sg sl sc (v3 + 4) = some (iI (z 4))) (h5 : sg sl sc (v3 + 5) = some (iI (z 5))) (ih : ∀ σ' ρ' A', Rel σ' ρ' A' → rec σ' ρ' 0 92 (v3 + 6) = some 1) (hR : Rel σ ρ A) : BL_law_694 sl sc rec σ ρ 0 92 v3 = some 1 := by
  unfold BL_law_694
  simp only [h1, h2, h3, ob_some]
  exact qry (f := fun s => MX12_number s ρ 92 (iI (z 1)) (iI (z 2)) (iI (z 3))) ih hR (k_number hR.qv (hz 1) (hz 2) (hz 3)) (fun s hs => m_number hs.qv (hz 1) (hz 2) (hz 3))
theorem L737 {z : Nat → Int} (hz : ∀ j, rg32 (z j)) (h1 : sg sl sc (v3 + 1) = some (iI (z 1))) (h2 : sg sl sc (v3 + 2) = some (iI (z 2))) (h3 : sg sl sc (v3 + 3) = some (iI (z 3))) (h4 : sg sl sc (v3 + 4) = some (iI (z 4))) (h5 : sg sl sc (v3 + 5) = some (iI (z 5))) (ih : ∀ σ' ρ' A', Rel σ' ρ' A' → rec σ' ρ' 0 92 (v3 + 6) = some 1) (hR : Rel σ ρ A) : BL_law_737 sl sc rec σ ρ 0 92 v3 = some 1 := by
  unfold BL_law_737
  simp only [h1, h2, ob_some]
  exact qry (f := fun s => MX12_joined s ρ 92 (iI (z 1)) (iI (z 2))) ih hR (k_joined hR.qv (hz 1) (hz 2)) (fun s hs => m_joined hs.qv (hz 1) (hz 2))
theorem L793 {z : Nat → Int} (hz : ∀ j, rg32 (z j)) (h1 : sg sl sc (v3 + 1) = some (iI (z 1))) (h2 : sg sl sc (v3 + 2) = some (iI (z 2))) (h3 : sg sl sc (v3 + 3) = some (iI (z 3))) (h4 : sg sl sc (v3 + 4) = some (iI (z 4))) (h5 : sg sl sc (v3 + 5) = some (iI (z 5))) (ih : ∀ σ' ρ' A', Rel σ' ρ' A' → rec σ' ρ' 0 92 (v3 + 6) = some 1) (hR : Rel σ ρ A) : BL_law_793 sl sc rec σ ρ 0 92 v3 = some 1 := by
  unfold BL_law_793
  simp only [h1, h2, ob_some]
  exact qry (f := fun s => MX12_lies s ρ 92 (iI (z 1)) (iI (z 2))) ih hR (k_lies hR.qv (hz 1) (hz 2)) (fun s hs => m_lies hs.qv (hz 1) (hz 2))
theorem L885 {z : Nat → Int} (hz : ∀ j, rg32 (z j)) (h1 : sg sl sc (v3 + 1) = some (iI (z 1))) (h2 : sg sl sc (v3 + 2) = some (iI (z 2))) (h3 : sg sl sc (v3 + 3) = some (iI (z 3))) (h4 : sg sl sc (v3 + 4) = some (iI (z 4))) (h5 : sg sl sc (v3 + 5) = some (iI (z 5))) (ih : ∀ σ' ρ' A', Rel σ' ρ' A' → rec σ' ρ' 0 92 (v3 + 6) = some 1) (hR : Rel σ ρ A) : BL_law_885 sl sc rec σ ρ 0 92 v3 = some 1 := by
  unfold BL_law_885
  simp only [h1, h2, ob_some]
  exact qry (f := fun s => MX12_polar s ρ 92 (iI (z 1)) (iI (z 2))) ih hR (k_polar hR.qv (hz 1) (hz 2)) (fun s hs => m_polar hs.qv (hz 1) (hz 2))
theorem L918 {z : Nat → Int} (hz : ∀ j, rg32 (z j)) (h1 : sg sl sc (v3 + 1) = some (iI (z 1))) (h2 : sg sl sc (v3 + 2) = some (iI (z 2))) (h3 : sg sl sc (v3 + 3) = some (iI (z 3))) (h4 : sg sl sc (v3 + 4) = some (iI (z 4))) (h5 : sg sl sc (v3 + 5) = some (iI (z 5))) (ih : ∀ σ' ρ' A', Rel σ' ρ' A' → rec σ' ρ' 0 92 (v3 + 6) = some 1) (hR : Rel σ ρ A) : BL_law_918 sl sc rec σ ρ 0 92 v3 = some 1 := by
  unfold BL_law_918
  simp only [h1, h2, ob_some]
  exact qry (f := fun s => MX12_pole s ρ 92 (iI (z 1)) (iI (z 2))) ih hR (k_pole hR.qv (hz 1) (hz 2)) (fun s hs => m_pole hs.qv (hz 1) (hz 2))
theorem L951 {z : Nat → Int} (hz : ∀ j, rg32 (z j)) (h1 : sg sl sc (v3 + 1) = some (iI (z 1))) (h2 : sg sl sc (v3 + 2) = some (iI (z 2))) (h3 : sg sl sc (v3 + 3) = some (iI (z 3))) (h4 : sg sl sc (v3 + 4) = some (iI (z 4))) (h5 : sg sl sc (v3 + 5) = some (iI (z 5))) (ih : ∀ σ' ρ' A', Rel σ' ρ' A' → rec σ' ρ' 0 92 (v3 + 6) = some 1) (hR : Rel σ ρ A) : BL_law_951 sl sc rec σ ρ 0 92 v3 = some 1 := by
  unfold BL_law_951
  simp only [h1, h2, ob_some]
  exact qry (f := fun s => MX12_meets s ρ 92 (iI (z 1)) (iI (z 2))) ih hR (k_meets hR.qv (hz 1) (hz 2)) (fun s hs => m_meets hs.qv (hz 1) (hz 2))
theorem L984 {z : Nat → Int} (hz : ∀ j, rg32 (z j)) (h1 : sg sl sc (v3 + 1) = some (iI (z 1))) (h2 : sg sl sc (v3 + 2) = some (iI (z 2))) (h3 : sg sl sc (v3 + 3) = some (iI (z 3))) (h4 : sg sl sc (v3 + 4) = some (iI (z 4))) (h5 : sg sl sc (v3 + 5) = some (iI (z 5))) (ih : ∀ σ' ρ' A', Rel σ' ρ' A' → rec σ' ρ' 0 92 (v3 + 6) = some 1) (hR : Rel σ ρ A) : BL_law_984 sl sc rec σ ρ 0 92 v3 = some 1 := by
  unfold BL_law_984
  simp only [h1, h2, h3, ob_some]
  exact qry (f := fun s => MX12_tangent s ρ 92 (iI (z 1)) (iI (z 2)) (iI (z 3))) ih hR (k_tangent hR.qv (hz 1) (hz 2) (hz 3)) (fun s hs => m_tangent hs.qv (hz 1) (hz 2) (hz 3))
theorem L1027 {z : Nat → Int} (hz : ∀ j, rg32 (z j)) (h1 : sg sl sc (v3 + 1) = some (iI (z 1))) (h2 : sg sl sc (v3 + 2) = some (iI (z 2))) (h3 : sg sl sc (v3 + 3) = some (iI (z 3))) (h4 : sg sl sc (v3 + 4) = some (iI (z 4))) (h5 : sg sl sc (v3 + 5) = some (iI (z 5))) (ih : ∀ σ' ρ' A', Rel σ' ρ' A' → rec σ' ρ' 0 92 (v3 + 6) = some 1) (hR : Rel σ ρ A) : BL_law_1027 sl sc rec σ ρ 0 92 v3 = some 1 := by
  unfold BL_law_1027
  simp only [h1, h2, h3, ob_some]
  exact qry (f := fun s => MX12_pencil s ρ 92 (iI (z 1)) (iI (z 2)) (iI (z 3))) ih hR (k_pencil hR.qv (hz 1) (hz 2) (hz 3)) (fun s hs => m_pencil hs.qv (hz 1) (hz 2) (hz 3))
theorem L1070 {z : Nat → Int} (hz : ∀ j, rg32 (z j)) (h1 : sg sl sc (v3 + 1) = some (iI (z 1))) (h2 : sg sl sc (v3 + 2) = some (iI (z 2))) (h3 : sg sl sc (v3 + 3) = some (iI (z 3))) (h4 : sg sl sc (v3 + 4) = some (iI (z 4))) (h5 : sg sl sc (v3 + 5) = some (iI (z 5))) (ih : ∀ σ' ρ' A', Rel σ' ρ' A' → rec σ' ρ' 0 92 (v3 + 6) = some 1) (hR : Rel σ ρ A) : BL_law_1070 sl sc rec σ ρ 0 92 v3 = some 1 := by
  unfold BL_law_1070
  simp only [h1, h2, h3, h4, ob_some]
  exact qry (f := fun s => MX12_member s ρ 92 (iI (z 1)) (iI (z 2)) (iI (z 3)) (iI (z 4))) ih hR (k_member hR.qv (hz 1) (hz 2) (hz 3) (hz 4)) (fun s hs => m_member hs.qv (hz 1) (hz 2) (hz 3) (hz 4))
theorem L1123 {z : Nat → Int} (hz : ∀ j, rg32 (z j)) (h1 : sg sl sc (v3 + 1) = some (iI (z 1))) (h2 : sg sl sc (v3 + 2) = some (iI (z 2))) (h3 : sg sl sc (v3 + 3) = some (iI (z 3))) (h4 : sg sl sc (v3 + 4) = some (iI (z 4))) (h5 : sg sl sc (v3 + 5) = some (iI (z 5))) (ih : ∀ σ' ρ' A', Rel σ' ρ' A' → rec σ' ρ' 0 92 (v3 + 6) = some 1) (hR : Rel σ ρ A) : BL_law_1123 sl sc rec σ ρ 0 92 v3 = some 1 := by
  unfold BL_law_1123
  simp only [h1, h2, h3, ob_some]
  exact qry (f := fun s => MX12_passing s ρ 92 (iI (z 1)) (iI (z 2)) (iI (z 3))) ih hR (k_passing hR.qv (hz 1) (hz 2) (hz 3)) (fun s hs => m_passing hs.qv (hz 1) (hz 2) (hz 3))
theorem L605 {z : Nat → Int} (hz : ∀ j, rg32 (z j)) (h1 : sg sl sc (v3 + 1) = some (iI (z 1))) (h2 : sg sl sc (v3 + 2) = some (iI (z 2))) (h3 : sg sl sc (v3 + 3) = some (iI (z 3))) (h4 : sg sl sc (v3 + 4) = some (iI (z 4))) (h5 : sg sl sc (v3 + 5) = some (iI (z 5))) (ih : ∀ σ' ρ' A', Rel σ' ρ' A' → rec σ' ρ' 0 92 (v3 + 6) = some 1) (hR : Rel σ ρ A) : BL_law_605 sl sc rec σ ρ 0 92 v3 = some 1 := by
  unfold BL_law_605
  simp only [h1, ob_some]
  exact qryR (f := fun s ρ' => MX12_count s ρ' 92 (iI (z 1))) ih hR (k_count hR (hz 1)) (fun s ρ' hs => m_count hs (hz 1))
theorem L1166 {z : Nat → Int} (hz : ∀ j, rg32 (z j)) (h1 : sg sl sc (v3 + 1) = some (iI (z 1))) (h2 : sg sl sc (v3 + 2) = some (iI (z 2))) (h3 : sg sl sc (v3 + 3) = some (iI (z 3))) (h4 : sg sl sc (v3 + 4) = some (iI (z 4))) (h5 : sg sl sc (v3 + 5) = some (iI (z 5))) (ih : ∀ σ' ρ' A', Rel σ' ρ' A' → rec σ' ρ' 0 92 (v3 + 6) = some 1) (hR : Rel σ ρ A) : BL_law_1166 sl sc rec σ ρ 0 92 v3 = some 1 := by
  unfold BL_law_1166
  simp only [h1, ob_some]
  exact qryR (f := fun s ρ' => MX12_only s ρ' 92 (iI (z 1))) ih hR (k_only hR.qv (hz 1)) (fun s ρ' hs => m_only hs.qv (hz 1))
theorem L1189 {z : Nat → Int} (hz : ∀ j, rg32 (z j)) (h1 : sg sl sc (v3 + 1) = some (iI (z 1))) (h2 : sg sl sc (v3 + 2) = some (iI (z 2))) (h3 : sg sl sc (v3 + 3) = some (iI (z 3))) (h4 : sg sl sc (v3 + 4) = some (iI (z 4))) (h5 : sg sl sc (v3 + 5) = some (iI (z 5))) (ih : ∀ σ' ρ' A', Rel σ' ρ' A' → rec σ' ρ' 0 92 (v3 + 6) = some 1) (hR : Rel σ ρ A) : BL_law_1189 sl sc rec σ ρ 0 92 v3 = some 1 := by
  unfold BL_law_1189
  simp only [h1, ob_some]
  exact qryR (f := fun s ρ' => MX12_freed s ρ' 92 (iI (z 1))) ih hR (k_freed hR.qv (hz 1)) (fun s ρ' hs => m_freed hs.qv (hz 1))
theorem L1212 {z : Nat → Int} (hz : ∀ j, rg32 (z j)) (h1 : sg sl sc (v3 + 1) = some (iI (z 1))) (h2 : sg sl sc (v3 + 2) = some (iI (z 2))) (h3 : sg sl sc (v3 + 3) = some (iI (z 3))) (h4 : sg sl sc (v3 + 4) = some (iI (z 4))) (h5 : sg sl sc (v3 + 5) = some (iI (z 5))) (ih : ∀ σ' ρ' A', Rel σ' ρ' A' → rec σ' ρ' 0 92 (v3 + 6) = some 1) (hR : Rel σ ρ A) : BL_law_1212 sl sc rec σ ρ 0 92 v3 = some 1 := by
  unfold BL_law_1212
  exact qryR (f := fun s ρ' => MX12_useful s ρ' 92 ) ih hR (k_useful hR.qv ) (fun s ρ' hs => m_useful hs.qv )
theorem L279 {z : Nat → Int} (hz : ∀ j, rg32 (z j)) (h1 : sg sl sc (v3 + 1) = some (iI (z 1))) (h2 : sg sl sc (v3 + 2) = some (iI (z 2))) (h3 : sg sl sc (v3 + 3) = some (iI (z 3))) (h4 : sg sl sc (v3 + 4) = some (iI (z 4))) (h5 : sg sl sc (v3 + 5) = some (iI (z 5))) (ih : ∀ σ' ρ' A', Rel σ' ρ' A' → rec σ' ρ' 0 92 (v3 + 6) = some 1) (hR : Rel σ ρ A) : BL_law_279 sl sc rec σ ρ 0 92 v3 = some 1 := by
  unfold BL_law_279
  rw [h1, ob_some, k_fault hR.1 hR.2.2.2.2.1 (hz 1), ob_some, ob_some, m_fault hR.2.2.2.2.2 (hz 1), ob_some, if_pos rfl]
  exact nxt ih hR
theorem L569 {z : Nat → Int} (hz : ∀ j, rg32 (z j)) (h1 : sg sl sc (v3 + 1) = some (iI (z 1))) (h2 : sg sl sc (v3 + 2) = some (iI (z 2))) (h3 : sg sl sc (v3 + 3) = some (iI (z 3))) (h4 : sg sl sc (v3 + 4) = some (iI (z 4))) (h5 : sg sl sc (v3 + 5) = some (iI (z 5))) (ih : ∀ σ' ρ' A', Rel σ' ρ' A' → rec σ' ρ' 0 92 (v3 + 6) = some 1) (hR : Rel σ ρ A) : BL_law_569 sl sc rec σ ρ 0 92 v3 = some 1 := by
  unfold BL_law_569
  rw [h1, ob_some, k_why hR.1 hR.2.2.2.2.1 (hz 1), ob_some, ob_some, m_why hR.2.1 hR.2.2.2.2.2 (hz 1), ob_some, if_pos rfl]
  exact nxt ih hR
theorem L770 {z : Nat → Int} (hz : ∀ j, rg32 (z j)) (h1 : sg sl sc (v3 + 1) = some (iI (z 1))) (h2 : sg sl sc (v3 + 2) = some (iI (z 2))) (h3 : sg sl sc (v3 + 3) = some (iI (z 3))) (h4 : sg sl sc (v3 + 4) = some (iI (z 4))) (h5 : sg sl sc (v3 + 5) = some (iI (z 5))) (ih : ∀ σ' ρ' A', Rel σ' ρ' A' → rec σ' ρ' 0 92 (v3 + 6) = some 1) (hR : Rel σ ρ A) : BL_law_770 sl sc rec σ ρ 0 92 v3 = some 1 := by
  unfold BL_law_770
  rw [h1, ob_some, k_marked hR.qv (hz 1), ob_some, ob_some, m_marked hR.qv (hz 1), ob_some, if_pos rfl]
  exact nxt ih hR
theorem L266 (ih : ∀ σ' ρ' A', Rel σ' ρ' A' → rec σ' ρ' 0 92 (v3 + 6) = some 1) (hR : Rel σ ρ A) : BL_law_266 sl sc rec σ ρ 0 92 v3 = some 1 := by
  unfold BL_law_266
  have hk := k_text hR.1 hR.2.2.2.1 hR.2.2.2.2.1
  obtain ⟨o, e, q1, q2⟩ := id hk
  exact act (f := fun s => MX12_text s ρ 92) ih hR (hk.mo fun _ h => h.1) q2 (fun s hs => m_text hR.2.1 hR.2.2.2.1 hs)
theorem L497 {z : Nat → Int} (hz : ∀ j, rg32 (z j)) (h1 : sg sl sc (v3 + 1) = some (iI (z 1))) (h2 : sg sl sc (v3 + 2) = some (iI (z 2))) (h3 : sg sl sc (v3 + 3) = some (iI (z 3))) (h4 : sg sl sc (v3 + 4) = some (iI (z 4))) (h5 : sg sl sc (v3 + 5) = some (iI (z 5))) (ih : ∀ σ' ρ' A', Rel σ' ρ' A' → rec σ' ρ' 0 92 (v3 + 6) = some 1) (hR : Rel σ ρ A) : BL_law_497 sl sc rec σ ρ 0 92 v3 = some 1 := by
  unfold BL_law_497
  simp only [h1, ob_some]
  exact actR (f := fun s ρ' => MX12_through s ρ' 92 (iI (z 1))) ih hR (k_through hR.1 hR.2.2.1 hR.2.2.2.1 hR.2.2.2.2.1 (hz 1)) (AOK_thru hR.2.2.2.1) (fun s ρ' hρ hs => m_through hρ hR.2.2.2.1 (fr_ex hR.qv) hs (hz 1))
theorem L520 {z : Nat → Int} (hz : ∀ j, rg32 (z j)) (h1 : sg sl sc (v3 + 1) = some (iI (z 1))) (h2 : sg sl sc (v3 + 2) = some (iI (z 2))) (h3 : sg sl sc (v3 + 3) = some (iI (z 3))) (h4 : sg sl sc (v3 + 4) = some (iI (z 4))) (h5 : sg sl sc (v3 + 5) = some (iI (z 5))) (ih : ∀ σ' ρ' A', Rel σ' ρ' A' → rec σ' ρ' 0 92 (v3 + 6) = some 1) (hR : Rel σ ρ A) : BL_law_520 sl sc rec σ ρ 0 92 v3 = some 1 := by
  unfold BL_law_520
  rw [h1, ob_some, h2, ob_some]
  by_cases c : iI (z 2) = (0 : Int32)
  · rw [if_pos c]
    unfold BL_law_539 BL_law_561
    simp only [h1, h2, ob_some, if_pos c]
    exact act (f := fun s => MX12_mark s ρ 92 (iI (z 1)) 0) ih hR (k_marks (b := false) hR.1 hR.2.2.2.1 hR.2.2.2.2.1 (hz 1)) (AOK_mark hR.2.2.2.1) (fun s hs => m_marks (b := false) hR.2.1 hR.2.2.2.1 hs (hz 1))
  · rw [if_neg c]
    unfold BL_law_539 BL_law_561
    simp only [h1, h2, ob_some, if_neg c]
    exact act (f := fun s => MX12_mark s ρ 92 (iI (z 1)) 1) ih hR (k_marks (b := true) hR.1 hR.2.2.2.1 hR.2.2.2.2.1 (hz 1)) (AOK_mark hR.2.2.2.1) (fun s hs => m_marks (b := true) hR.2.1 hR.2.2.2.1 hs (hz 1))
theorem L826 {z : Nat → Int} (hz : ∀ j, rg32 (z j)) (h1 : sg sl sc (v3 + 1) = some (iI (z 1))) (h2 : sg sl sc (v3 + 2) = some (iI (z 2))) (h3 : sg sl sc (v3 + 3) = some (iI (z 3))) (h4 : sg sl sc (v3 + 4) = some (iI (z 4))) (h5 : sg sl sc (v3 + 5) = some (iI (z 5))) (ih : ∀ σ' ρ' A', Rel σ' ρ' A' → rec σ' ρ' 0 92 (v3 + 6) = some 1) (hR : Rel σ ρ A) : BL_law_826 sl sc rec σ ρ 0 92 v3 = some 1 := by
  unfold BL_law_826
  rw [h1, ob_some, h2, ob_some, h3, ob_some]
  by_cases c : iI (z 3) = (0 : Int32)
  · rw [if_pos c]
    unfold BL_law_850 BL_law_877
    simp only [h1, h2, h3, ob_some, if_pos c]
    exact qry (f := fun s => MX12_on s ρ 92 (iI (z 1)) (iI (z 2)) 0) ih hR (k_on hR.qv (hz 1) (hz 2)) (fun s hs => m_on hs.qv (hz 1) (hz 2))
  · rw [if_neg c]
    unfold BL_law_850 BL_law_877
    simp only [h1, h2, h3, ob_some, if_neg c]
    exact qry (f := fun s => MX12_on s ρ 92 (iI (z 1)) (iI (z 2)) 1) ih hR (k_on hR.qv (hz 1) (hz 2)) (fun s hs => m_on hs.qv (hz 1) (hz 2))
theorem law_step {z : Nat → Int} (hz : ∀ j, rg32 (z j)) (h1 : sg sl sc (v3 + 1) = some (iI (z 1))) (h2 : sg sl sc (v3 + 2) = some (iI (z 2))) (h3 : sg sl sc (v3 + 3) = some (iI (z 3))) (h4 : sg sl sc (v3 + 4) = some (iI (z 4))) (h5 : sg sl sc (v3 + 5) = some (iI (z 5))) (ih : ∀ σ' ρ' A', Rel σ' ρ' A' → rec σ' ρ' 0 92 (v3 + 6) = some 1) (hR : Rel σ ρ A) {x1 : Int32} (hn : ¬ (Int32.ofNat sl - 6 < v3)) (h0 : sg sl sc v3 = some x1) : FL_law_18 sl sc rec σ ρ 0 92 v3 = some 1 := by
  unfold FL_law_18
  rw [if_neg hn, h0, ob_some]
  by_cases c0 : (x1 &&& 63) = (0 : Int32)
  · rw [if_pos c0]; exact L180 hz h1 h2 h3 h4 h5 ih hR
  rw [if_neg c0]
  by_cases c1 : (x1 &&& 63) = (1 : Int32)
  · rw [if_pos c1]; exact L243 hz h1 h2 h3 h4 h5 ih hR
  rw [if_neg c1]
  by_cases c2 : (x1 &&& 63) = (2 : Int32)
  · rw [if_pos c2]; exact L266 ih hR
  rw [if_neg c2]
  by_cases c3 : (x1 &&& 63) = (3 : Int32)
  · rw [if_pos c3]; exact L279 hz h1 h2 h3 h4 h5 ih hR
  rw [if_neg c3]
  by_cases c4 : (x1 &&& 63) = (4 : Int32)
  · rw [if_pos c4]; exact L302 hz h1 h2 h3 h4 h5 ih hR
  rw [if_neg c4]
  by_cases c5 : (x1 &&& 63) = (5 : Int32)
  · rw [if_pos c5]; exact L325 hz h1 h2 h3 h4 h5 ih hR
  rw [if_neg c5]
  by_cases c6 : (x1 &&& 63) = (6 : Int32)
  · rw [if_pos c6]; exact L368 hz h1 h2 h3 h4 h5 ih hR
  rw [if_neg c6]
  by_cases c7 : (x1 &&& 63) = (7 : Int32)
  · rw [if_pos c7]; exact L431 hz h1 h2 h3 h4 h5 ih hR
  rw [if_neg c7]
  by_cases c8 : (x1 &&& 63) = (8 : Int32)
  · rw [if_pos c8]; exact L464 hz h1 h2 h3 h4 h5 ih hR
  rw [if_neg c8]
  by_cases c9 : (x1 &&& 63) = (9 : Int32)
  · rw [if_pos c9]; exact L497 hz h1 h2 h3 h4 h5 ih hR
  rw [if_neg c9]
  by_cases c10 : (x1 &&& 63) = (10 : Int32)
  · rw [if_pos c10]; exact L520 hz h1 h2 h3 h4 h5 ih hR
  rw [if_neg c10]
  by_cases c11 : (x1 &&& 63) = (11 : Int32)
  · rw [if_pos c11]; exact L569 hz h1 h2 h3 h4 h5 ih hR
  rw [if_neg c11]
  by_cases c12 : (x1 &&& 63) = (12 : Int32)
  · rw [if_pos c12]; exact L592 hz h1 h2 h3 h4 h5 ih hR
  rw [if_neg c12]
  by_cases c13 : (x1 &&& 63) = (13 : Int32)
  · rw [if_pos c13]; exact L605 hz h1 h2 h3 h4 h5 ih hR
  rw [if_neg c13]
  by_cases c14 : (x1 &&& 63) = (14 : Int32)
  · rw [if_pos c14]; exact L628 hz h1 h2 h3 h4 h5 ih hR
  rw [if_neg c14]
  by_cases c15 : (x1 &&& 63) = (15 : Int32)
  · rw [if_pos c15]; exact L661 hz h1 h2 h3 h4 h5 ih hR
  rw [if_neg c15]
  by_cases c16 : (x1 &&& 63) = (16 : Int32)
  · rw [if_pos c16]; exact L694 hz h1 h2 h3 h4 h5 ih hR
  rw [if_neg c16]
  by_cases c17 : (x1 &&& 63) = (17 : Int32)
  · rw [if_pos c17]; exact L737 hz h1 h2 h3 h4 h5 ih hR
  rw [if_neg c17]
  by_cases c18 : (x1 &&& 63) = (18 : Int32)
  · rw [if_pos c18]; exact L770 hz h1 h2 h3 h4 h5 ih hR
  rw [if_neg c18]
  by_cases c19 : (x1 &&& 63) = (19 : Int32)
  · rw [if_pos c19]; exact L793 hz h1 h2 h3 h4 h5 ih hR
  rw [if_neg c19]
  by_cases c20 : (x1 &&& 63) = (20 : Int32)
  · rw [if_pos c20]; exact L826 hz h1 h2 h3 h4 h5 ih hR
  rw [if_neg c20]
  by_cases c21 : (x1 &&& 63) = (21 : Int32)
  · rw [if_pos c21]; exact L885 hz h1 h2 h3 h4 h5 ih hR
  rw [if_neg c21]
  by_cases c22 : (x1 &&& 63) = (22 : Int32)
  · rw [if_pos c22]; exact L918 hz h1 h2 h3 h4 h5 ih hR
  rw [if_neg c22]
  by_cases c23 : (x1 &&& 63) = (23 : Int32)
  · rw [if_pos c23]; exact L951 hz h1 h2 h3 h4 h5 ih hR
  rw [if_neg c23]
  by_cases c24 : (x1 &&& 63) = (24 : Int32)
  · rw [if_pos c24]; exact L984 hz h1 h2 h3 h4 h5 ih hR
  rw [if_neg c24]
  by_cases c25 : (x1 &&& 63) = (25 : Int32)
  · rw [if_pos c25]; exact L1027 hz h1 h2 h3 h4 h5 ih hR
  rw [if_neg c25]
  by_cases c26 : (x1 &&& 63) = (26 : Int32)
  · rw [if_pos c26]; exact L1070 hz h1 h2 h3 h4 h5 ih hR
  rw [if_neg c26]
  by_cases c27 : (x1 &&& 63) = (27 : Int32)
  · rw [if_pos c27]; exact L1123 hz h1 h2 h3 h4 h5 ih hR
  rw [if_neg c27]
  by_cases c28 : (x1 &&& 63) = (28 : Int32)
  · rw [if_pos c28]; exact L1166 hz h1 h2 h3 h4 h5 ih hR
  rw [if_neg c28]
  by_cases c29 : (x1 &&& 63) = (29 : Int32)
  · rw [if_pos c29]; exact L1189 hz h1 h2 h3 h4 h5 ih hR
  rw [if_neg c29]
  by_cases c30 : (x1 &&& 63) = (30 : Int32)
  · rw [if_pos c30]; exact L1212 hz h1 h2 h3 h4 h5 ih hR
  rw [if_neg c30]
  by_cases c31 : (x1 &&& 63) = (31 : Int32)
  · rw [if_pos c31]; exact L1225 hz h1 h2 h3 h4 h5 ih hR
  rw [if_neg c31]
  by_cases c32 : (x1 &&& 63) = (32 : Int32)
  · rw [if_pos c32]; exact L1248 hz h1 h2 h3 h4 h5 ih hR
  rw [if_neg c32]
  exact nxt ih hR
end LAWSTEP

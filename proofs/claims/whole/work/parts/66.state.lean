/-! what both sides hold: the state, and each side's picture of it -/
def okU (ρ : Rv) (u : Nat) : Prop := u < 384 ∧ (rW ρ = 0 → u = 0) ∧ (rW ρ ≠ 0 → okS ρ (u / 8))
abbrev Im : Type := Option (Nat × Nat × Nat)
/-- a boat's numbers: spot, strokes, seed -/
def okB (ρ : Rv) (k u cnt sd : Nat) : Prop := okU ρ u ∧ cnt ≤ 99 * k ∧ sd < 2147483648
def okI (ρ : Rv) (k : Nat) : Im → Prop
  | none => True
  | some b => okB ρ k b.1 b.2.1 b.2.2
/-- river, text, fault, (spot, strokes, seed), log (latest first), line, book, images -/
abbrev St : Type := Rv × List Nat × Int32 × (Nat × Nat × Nat) × List Nat × List Nat × List (Nat × Nat) × Im × Im
abbrev sR (a : St) : Rv := a.1
abbrev sT (a : St) : List Nat := a.2.1
abbrev sF (a : St) : Int32 := a.2.2.1
abbrev sB (a : St) : Nat × Nat × Nat := a.2.2.2.1
abbrev sL (a : St) : List Nat := a.2.2.2.2.1
abbrev sN (a : St) : List Nat := a.2.2.2.2.2.1
abbrev sE (a : St) : List (Nat × Nat) := a.2.2.2.2.2.2.1
abbrev sI0 (a : St) : Im := a.2.2.2.2.2.2.2.1
abbrev sI1 (a : St) : Im := a.2.2.2.2.2.2.2.2
def VS (k : Nat) (a : St) : Prop := WF (sR a) ∧ ((sT a).length ≤ k ∧ ∀ c ∈ sT a, c < 256) ∧ okB (sR a) k (sB a).1 (sB a).2.1 (sB a).2.2 ∧
  ((sL a).length ≤ 50 ∧ (sL a).length ≤ (sB a).2.1 ∧ ∀ u ∈ sL a, okU (sR a) u) ∧ ((sN a).length ≤ 4 ∧ ∀ s ∈ sN a, inR (sR a) s) ∧ ((sE a).length ≤ 20 ∧ ∀ e ∈ sE a, e.1 < 16 ∧ inR (sR a) e.2) ∧ okI (sR a) k (sI0 a) ∧ okI (sR a) k (sI1 a)
-- the class
def cT (tx : List Nat) (h : Hp) : Prop := h 0 1 = nI tx.length ∧ ∀ j, j < tx.length → h 2 j = nI (tx.getD j 0)
def cF (fp : Int32) (h : Hp) : Prop := h 0 2 = fp
def cR (ρ : Rv) (h : Hp) : Prop := RC ρ h ∧ RL ρ h ∧ RK ρ 0 h
def cB (b : Nat × Nat × Nat) (h : Hp) : Prop := h 30 0 = nI b.1 ∧ h 30 1 = nI b.2.1 ∧ h 30 2 = nI b.2.2
def cI (i : Nat) (im : Im) (h : Hp) : Prop := match im with
  | none => h 33 i = 0
  | some b => h 33 i = 1 ∧ h (31 + i) 0 = nI b.1 ∧ h (31 + i) 1 = nI b.2.1 ∧ h (31 + i) 2 = nI b.2.2
def cL (lg : List Nat) (h : Hp) : Prop := ∃ nx, nx < 50 ∧ h 35 1 = nI nx ∧ h 35 2 = nI lg.length ∧ ∀ j, j < lg.length → h 36 ((nx + 49 - j) % 50) = nI (lg.getD j 0)
def cN (ln : List Nat) (h : Hp) : Prop := h 60 4 = nI ln.length ∧ ∀ j, j < ln.length → h 61 j = nI (ln.getD j 0)
def cE (bk : List (Nat × Nat)) (h : Hp) : Prop := h 60 5 = nI bk.length ∧ ∀ j, j < bk.length → h 63 j = nI (bk.getD j (0, 0)).1 ∧ h 64 j = nI (bk.getD j (0, 0)).2
-- the reference
def mT (tx : List Nat) (h : Hp) : Prop := h 100 7 = nI tx.length ∧ ∀ j, j < tx.length → h 106 j = nI (tx.getD j 0)
def mF (fp : Int32) (h : Hp) : Prop := h 100 11 = fp
def mB (ρ : Rv) (o : Nat) (b : Nat × Nat × Nat) (h : Hp) : Prop := h 101 o = nI (cM ρ (b.1 / 8)) ∧ h 101 (o + 1) = nI (b.1 % 8) ∧ h 101 (o + 2) = nI b.2.1 ∧ h 101 (o + 3) = nI b.2.2
def mI (ρ : Rv) (i : Nat) (im : Im) (h : Hp) : Prop := match im with
  | none => h 102 i = 0
  | some b => h 102 i = 1 ∧ mB ρ (4 + 4 * i) b h
def mL (ρ : Rv) (cnt : Nat) (lg : List Nat) (h : Hp) : Prop := h 100 16 = nI lg.length ∧ ∀ j, j < lg.length → h 107 (3 * (lg.length - 1 - j)) = nI (cM ρ (lg.getD j 0 / 8)) ∧ h 107 (3 * (lg.length - 1 - j) + 1) = nI (lg.getD j 0 % 8) ∧ h 107 (3 * (lg.length - 1 - j) + 2) = nI (cnt - 1 - j)
def mN (ρ : Rv) (ln : List Nat) (h : Hp) : Prop := h 100 26 = nI ln.length ∧ ∀ j, j < ln.length → h 112 j = nI (cM ρ (ln.getD j 0))
def mE (ρ : Rv) (bk : List (Nat × Nat)) (h : Hp) : Prop := h 100 32 = nI bk.length ∧ ∀ j, j < bk.length → h 114 j = nI (bk.getD j (0, 0)).1 ∧ h 115 j = nI (cM ρ (bk.getD j (0, 0)).2)
def IM (a : St) (h : Hp) : Prop := RM (sR a) h ∧ h 100 12 = 0 ∧ mT (sT a) h ∧ mF (sF a) h ∧ mB (sR a) 0 (sB a) h ∧ mL (sR a) (sB a).2.1 (sL a) h ∧ mN (sR a) (sN a) h ∧ mE (sR a) (sE a) h ∧ mI (sR a) 0 (sI0 a) h ∧ mI (sR a) 1 (sI1 a) h
theorem cT_of {tx : List Nat} {h h' : Hp} (e0 : h' 0 1 = h 0 1) (e1 : h' 2 = h 2) (H : cT tx h) : cT tx h' := by unfold cT at H ⊢; rw [e0, e1]; exact H
theorem cF_of {fp : Int32} {h h' : Hp} (e0 : h' 0 2 = h 0 2) (H : cF fp h) : cF fp h' := by unfold cF at H ⊢; rw [e0]; exact H
theorem RL_of {ρ : Rv} {h h' : Hp} (e0 : h' 15 = h 15) (e1 : h' 16 = h 16) (e2 : h' 17 = h 17) (H : RL ρ h) : RL ρ h' := by unfold RL at H ⊢; rw [e0, e1, e2]; exact H
theorem RK_of {ρ : Rv} {kn : Nat} {h h' : Hp} (e0 : h' 21 = h 21) (e1 : h' 22 = h 22) (H : RK ρ kn h) : RK ρ kn h' := by unfold RK at H ⊢; rw [e0, e1]; exact H
theorem cR_of {ρ : Rv} {h h' : Hp} (e : ∀ r ∈ [10, 11, 12, 15, 16, 17, 21, 22], h' r = h r) (H : cR ρ h) : cR ρ h' :=
  ⟨RC_of (e _ (by decide)) (e _ (by decide)) (e _ (by decide)) H.1, RL_of (e _ (by decide)) (e _ (by decide)) (e _ (by decide)) H.2.1, RK_of (e _ (by decide)) (e _ (by decide)) H.2.2⟩
theorem cB_of {b : Nat × Nat × Nat} {h h' : Hp} (e0 : h' 30 = h 30) (H : cB b h) : cB b h' := by unfold cB at H ⊢; rw [e0]; exact H
theorem cI_of {i : Nat} {im : Im} {h h' : Hp} (e0 : h' 33 i = h 33 i) (e1 : h' (31 + i) = h (31 + i)) (H : cI i im h) : cI i im h' := by
  cases im with
  | none => show h' 33 i = 0; rw [e0]; exact H
  | some b => show h' 33 i = 1 ∧ h' (31 + i) 0 = _ ∧ h' (31 + i) 1 = _ ∧ h' (31 + i) 2 = _; rw [e0, e1]; exact H
theorem cL_of {lg : List Nat} {h h' : Hp} (e0 : h' 35 = h 35) (e1 : h' 36 = h 36) (H : cL lg h) : cL lg h' := by unfold cL at H ⊢; rw [e0, e1]; exact H
theorem cN_of {ln : List Nat} {h h' : Hp} (e0 : h' 60 4 = h 60 4) (e1 : h' 61 = h 61) (H : cN ln h) : cN ln h' := by unfold cN at H ⊢; rw [e0, e1]; exact H
theorem cE_of {bk : List (Nat × Nat)} {h h' : Hp} (e0 : h' 60 5 = h 60 5) (e1 : h' 63 = h 63) (e2 : h' 64 = h 64) (H : cE bk h) : cE bk h' := by unfold cE at H ⊢; rw [e0, e1, e2]; exact H
theorem mT_of {tx : List Nat} {h h' : Hp} (e0 : h' 100 7 = h 100 7) (e1 : h' 106 = h 106) (H : mT tx h) : mT tx h' := by unfold mT at H ⊢; rw [e0, e1]; exact H
theorem mF_of {fp : Int32} {h h' : Hp} (e0 : h' 100 11 = h 100 11) (H : mF fp h) : mF fp h' := by unfold mF at H ⊢; rw [e0]; exact H
theorem mB_of {ρ : Rv} {o : Nat} {b : Nat × Nat × Nat} {h h' : Hp} (e0 : ∀ j, j < 4 → h' 101 (o + j) = h 101 (o + j)) (H : mB ρ o b h) : mB ρ o b h' := by
  have a0 := e0 0 (by decide)
  have a1 := e0 1 (by decide)
  have a2 := e0 2 (by decide)
  have a3 := e0 3 (by decide)
  unfold mB at H ⊢
  rw [Nat.add_zero] at a0
  rw [a0, a1, a2, a3]; exact H
theorem mI_of {ρ : Rv} {i : Nat} {im : Im} {h h' : Hp} (e0 : h' 102 i = h 102 i) (e1 : ∀ j, j < 4 → h' 101 (4 + 4 * i + j) = h 101 (4 + 4 * i + j)) (H : mI ρ i im h) : mI ρ i im h' := by
  cases im with
  | none => show h' 102 i = 0; rw [e0]; exact H
  | some b => exact ⟨e0.trans H.1, mB_of e1 H.2⟩
theorem mL_of {ρ : Rv} {cnt : Nat} {lg : List Nat} {h h' : Hp} (e0 : h' 100 16 = h 100 16) (e1 : h' 107 = h 107) (H : mL ρ cnt lg h) : mL ρ cnt lg h' := by unfold mL at H ⊢; rw [e0, e1]; exact H
theorem mN_of {ρ : Rv} {ln : List Nat} {h h' : Hp} (e0 : h' 100 26 = h 100 26) (e1 : h' 112 = h 112) (H : mN ρ ln h) : mN ρ ln h' := by unfold mN at H ⊢; rw [e0, e1]; exact H
theorem mE_of {ρ : Rv} {bk : List (Nat × Nat)} {h h' : Hp} (e0 : h' 100 32 = h 100 32) (e1 : h' 114 = h 114) (e2 : h' 115 = h 115) (H : mE ρ bk h) : mE ρ bk h' := by unfold mE at H ⊢; rw [e0, e1, e2]; exact H
/-- what the reference keeps, apart from scratch -/
def sameM (h h' : Hp) : Prop := (∀ r ∈ [101, 102, 103, 104, 105, 106, 107, 112, 114, 115], h' r = h r) ∧ ∀ f ∈ [7, 11, 12, 16, 26, 32], h' 100 f = h 100 f
theorem sameM_rf (h : Hp) : sameM h h := ⟨fun _ _ => rfl, fun _ _ => rfl⟩
theorem sameM_tr {h1 h2 h3 : Hp} (a : sameM h1 h2) (b : sameM h2 h3) : sameM h1 h3 := ⟨fun r hr => (b.1 r hr).trans (a.1 r hr), fun f hf => (b.2 f hf).trans (a.2 f hf)⟩
theorem IM_same {a : St} {h h' : Hp} (e : sameM h h') (H : IM a h) : IM a h' := by
  obtain ⟨e1, e2⟩ := e
  obtain ⟨h1, h2, h3, h4, h5, h6, h7, h8, h9, h10⟩ := H
  have e101 := e1 101 (by decide)
  exact ⟨RM_of (e1 _ (by decide)) (e1 _ (by decide)) (e1 _ (by decide)) h1, (e2 12 (by decide)).trans h2, mT_of (e2 _ (by decide)) (e1 _ (by decide)) h3, mF_of (e2 _ (by decide)) h4, mB_of (fun j _ => by rw [e101]) h5, mL_of (e2 _ (by decide)) (e1 _ (by decide)) h6, mN_of (e2 _ (by decide)) (e1 _ (by decide)) h7, mE_of (e2 _ (by decide)) (e1 _ (by decide)) (e1 _ (by decide)) h8, mI_of (by rw [e1 102 (by decide)]) (fun j _ => by rw [e101]) h9, mI_of (by rw [e1 102 (by decide)]) (fun j _ => by rw [e101]) h10⟩
theorem sameM_nx (h : Hp) (d c : Nat) : sameM h (nx h d c) := by
  refine ⟨fun r hr => nx_ne _ _ _ (fun z => ?_), fun f hf => nx_f _ _ _ (fun z => ?_) (fun z => ?_)⟩
  · subst z; revert hr; decide
  · subst z; revert hf; decide
  · subst z; revert hf; decide
theorem lC_lt : ∀ r ∈ lC, r < 100 := by decide
theorem lM_ge : ∀ r ∈ lM, 100 ≤ r := by decide
theorem mxC (h1 h : Hp) {r : Nat} (hr : r ∈ lC) : mx lC h1 h r = h1 r := by unfold mx; rw [if_pos hr]
theorem mxC_ne (h1 h : Hp) {r : Nat} (hr : r ∉ lC) : mx lC h1 h r = h r := by unfold mx; rw [if_neg hr]
theorem mxM (h1 h : Hp) {r : Nat} (hr : r ∈ lM) : mx lM h1 h r = h1 r := by unfold mx; rw [if_pos hr]
theorem mxM_ne (h1 h : Hp) {r : Nat} (hr : r ∉ lM) : mx lM h1 h r = h r := by unfold mx; rw [if_neg hr]
theorem IM_C {a : St} {h1 h : Hp} (H : IM a h) : IM a (mx lC h1 h) := IM_same ⟨fun r hr => mxC_ne _ _ (fun z => by revert hr z; revert r; decide), fun f _ => by rw [mxC_ne _ _ (by decide)]⟩ H
theorem IM_M {a : St} {h2 h : Hp} (H : IM a h2) : IM a (mx lM h2 h) := IM_same (h := h2) ⟨fun r hr => mxM _ _ (by revert hr; revert r; decide), fun f _ => by rw [mxM _ _ (by decide)]⟩ H

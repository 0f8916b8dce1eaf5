/-! what is looked for: fewest, calls, surely; and the whole invariant -/
def isG (ρ : Rv) (u : Nat) : Bool := decide (rG ρ ≠ 0) && decide (u / 8 = rG ρ - 1) && (decide (rGh ρ = 8) || decide (rGh ρ = u % 8))
/-- kinds of looks: 0 both, 1 to 9 a third one's strength, 10 alone -/
def prs (kind : Nat) : List Nat := if kind = 10 then [3, 7, 11, 15] else List.range 16
def knd (kind : Nat) : Nat := if kind = 10 then 0 else kind
def rch (ρ : Rv) (kind : Nat) : Nat → Nat → Bool
  | 0, m => isG ρ (m % 384)
  | n + 1, m => (prs kind).any (fun p => rch ρ kind n (aft ρ (knd kind) m p))
def dst (ρ : Rv) (kind n m : Nat) : Prop := rch ρ kind n m = true ∧ ∀ j, j < n → rch ρ kind j m = false
/-- the first pair by which it is n strokes then -/
def nxp (ρ : Rv) (kind n m : Nat) : Nat := ((prs kind).find? (fun p => rch ρ kind n (aft ρ (knd kind) m p))).getD 0
def pth (ρ : Rv) (kind : Nat) : Nat → Nat → List Nat
  | 0, _ => []
  | n + 1, m => nxp ρ kind n m :: pth ρ kind n (aft ρ (knd kind) m (nxp ρ kind n m))
def SRes (ρ : Rv) (kind m : Nat) (h : Hp) : Prop := (∃ n, n ≤ 60 ∧ dst ρ kind n m ∧ h 40 5 = nI n ∧ ∀ i, i < n → h 43 i = nI ((pth ρ kind n m).getD i 0)) ∨ ((∀ n, n ≤ 60 → rch ρ kind n m = false) ∧ h 40 5 = -1)
def MS (ρ : Rv) (h : Hp) : Prop := h 40 6 = -1 ∨ ∃ m kind, okM ρ m ∧ kind ≤ 10 ∧ h 40 6 = nI (m * 11 + kind) ∧ SRes ρ kind m h
/-- with c calls at most, after t strokes, at m, p the pair last paddled -/
def Rc (ρ : Rv) (m0 p0 : Nat) : Nat → Nat → Nat → Nat → Prop
  | 0 => fun _ m p => m = m0 ∧ p = p0
  | t + 1 => fun c m' p => ∃ m, aft ρ 0 m p = m' ∧ (Rc ρ m0 p0 t c m p ∨ (1 ≤ c ∧ ∃ p2, p2 < 16 ∧ Rc ρ m0 p0 t (c - 1) m p2))
def Gc (ρ : Rv) (m0 p0 c t : Nat) : Prop := ∃ m p, p < 16 ∧ Rc ρ m0 p0 t c m p ∧ isG ρ (m % 384) = true
def CRes (ρ : Rv) (m0 p0 : Nat) (h : Hp) : Prop := (∃ c t, t ≤ 60 ∧ Gc ρ m0 p0 c t ∧ (∀ c' t', t' ≤ 60 → Gc ρ m0 p0 c' t' → c ≤ c') ∧ (∀ t', t' ≤ 60 → Gc ρ m0 p0 c t' → t ≤ t') ∧ h 45 6 = nI c ∧ h 45 7 = nI t) ∨ ((∀ c t, t ≤ 60 → ¬ Gc ρ m0 p0 c t) ∧ h 45 6 = -1 ∧ h 45 7 = -1)
def MC (ρ : Rv) (k : Nat) (h : Hp) : Prop := (∃ P, P ≤ 1000 * k ∧ h 45 4 = nI P ∧ ∀ m, m < 3456 → ∃ q, q ≤ P * 64 + 63 ∧ h 48 m = nI q) ∧ (h 45 8 = -1 ∨ ∃ m0 p0, okM ρ m0 ∧ p0 < 16 ∧ h 45 8 = nI (m0 * 16 + p0) ∧ CRes ρ m0 p0 h)
/-- surely within n strokes -/
def srw (ρ : Rv) : Nat → Nat → Bool
  | 0, u => isG ρ u
  | n + 1, u => srw ρ n u || (List.range 16).any (fun p => srw ρ n (cal ρ 0 u p) && srw ρ n (gus ρ (cal ρ 0 u p)))
def srp (ρ : Rv) (n u : Nat) : Nat := ((List.range 16).find? (fun p => srw ρ n (cal ρ 0 u p) && srw ρ n (gus ρ (cal ρ 0 u p)))).getD 0
def GRes (ρ : Rv) (u : Nat) (h : Hp) : Prop := (rWw ρ ≠ 0 ∧ ∃ n, n ≤ 30 ∧ srw ρ n u = true ∧ (∀ j, j < n → srw ρ j u = false) ∧ h 55 1 = nI n ∧ h 55 2 = (if n = 0 then -1 else nI (srp ρ (n - 1) u))) ∨ ((rWw ρ = 0 ∨ srw ρ 30 u = false) ∧ h 55 1 = -1 ∧ h 55 2 = -1)
def MG (ρ : Rv) (h : Hp) : Prop := h 55 3 = -1 ∨ ∃ u, u < 384 ∧ okS ρ (u / 8) ∧ h 55 3 = nI u ∧ GRes ρ u h
theorem MS_of {ρ : Rv} {h h' : Hp} (e0 : h' 40 = h 40) (e1 : h' 43 = h 43) (H : MS ρ h) : MS ρ h' := by unfold MS SRes at H ⊢; rw [e0, e1]; exact H
theorem MC_of {ρ : Rv} {k k' : Nat} {h h' : Hp} (hk : k ≤ k') (e0 : h' 45 = h 45) (e1 : h' 48 = h 48) (H : MC ρ k h) : MC ρ k' h' := by
  obtain ⟨⟨P, h1, h2⟩, h3⟩ := H
  unfold MC CRes
  rw [e0, e1]
  exact ⟨⟨P, by omega, h2⟩, h3⟩
theorem MG_of {ρ : Rv} {h h' : Hp} (e0 : h' 55 = h 55) (H : MG ρ h) : MG ρ h' := by unfold MG GRes at H ⊢; rw [e0]; exact H
/-- the class's picture -/
def IC (k : Nat) (a : St) (h : Hp) : Prop := cT (sT a) h ∧ cF (sF a) h ∧ cR (sR a) h ∧ cB (sB a) h ∧ cL (sL a) h ∧ cN (sN a) h ∧ cE (sE a) h ∧ cI 0 (sI0 a) h ∧ cI 1 (sI1 a) h ∧ MS (sR a) h ∧ MC (sR a) k h ∧ MG (sR a) h
def clR : List Nat := [0, 2, 10, 11, 12, 15, 16, 17, 21, 22, 30, 31, 32, 33, 35, 36, 40, 43, 45, 48, 55, 60, 61, 63, 64]
theorem IC_same {k k' : Nat} (hk : k ≤ k') {a : St} {h h' : Hp} (e : ∀ r ∈ clR, h' r = h r) (H : IC k a h) : IC k' a h' := by
  obtain ⟨h1, h2, h3, h4, h5, h6, h7, h8, h9, h10, h11, h12⟩ := H
  have m : ∀ r, r ∈ clR → h' r = h r := e
  exact ⟨cT_of (by rw [m 0 (by decide)]) (m _ (by decide)) h1, cF_of (by rw [m 0 (by decide)]) h2, cR_of (fun r hr => m r (by revert hr; revert r; decide)) h3, cB_of (m _ (by decide)) h4, cL_of (m _ (by decide)) (m _ (by decide)) h5, cN_of (by rw [m 60 (by decide)]) (m _ (by decide)) h6, cE_of (by rw [m 60 (by decide)]) (m _ (by decide)) (m _ (by decide)) h7, cI_of (by rw [m 33 (by decide)]) (m _ (by decide)) h8, cI_of (by rw [m 33 (by decide)]) (m _ (by decide)) h9, MS_of (m _ (by decide)) (m _ (by decide)) h10, MC_of hk (m _ (by decide)) (m _ (by decide)) h11, MG_of (m _ (by decide)) h12⟩
theorem VS_mono {k k' : Nat} (hk : k ≤ k') {a : St} (H : VS k a) : VS k' a := by
  obtain ⟨h1, h2, h3, h4, h5, h6, h7, h8⟩ := H
  have hi : ∀ (im : Im), okI (sR a) k im → okI (sR a) k' im := by
    intro im him
    cases im with
    | none => trivial
    | some b => exact ⟨him.1, Nat.le_trans him.2.1 (Nat.mul_le_mul_left _ hk), him.2.2⟩
  exact ⟨h1, ⟨Nat.le_trans h2.1 hk, h2.2⟩, ⟨h3.1, Nat.le_trans h3.2.1 (Nat.mul_le_mul_left _ hk), h3.2.2⟩, h4, h5, h6, hi _ h7, hi _ h8⟩
def Inv (k : Nat) (b0 b1 : Bool) (h : Hp) : Prop := ∃ a : St, VS k a ∧ IC k a h ∧ IM a h ∧ (sI0 a).isSome = b0 ∧ (sI1 a).isSome = b1
/-- a call that writes scratch of the reference alone -/
theorem Inv_M {k : Nat} {b0 b1 : Bool} {h h2 : Hp} (e : sameM h h2) (H : Inv k b0 b1 h) : Inv (k + 1) b0 b1 (mx lM h2 h) := by
  obtain ⟨a, h1, hC, hM, h4, h5⟩ := H
  refine ⟨a, VS_mono (Nat.le_succ k) h1, IC_same (Nat.le_succ k) (fun r hr => mxM_ne _ _ (fun z => ?_)) hC, IM_M (IM_same e hM), h4, h5⟩
  have := lM_ge r z
  revert hr this; revert r; unfold clR; decide
theorem Inv_0 {k : Nat} {b0 b1 : Bool} {h : Hp} (H : Inv k b0 b1 h) : Inv (k + 1) b0 b1 h := by
  obtain ⟨a, h1, hC, hM, h4, h5⟩ := H
  exact ⟨a, VS_mono (Nat.le_succ k) h1, IC_same (Nat.le_succ k) (fun _ _ => rfl) hC, hM, h4, h5⟩
/-- both sides have done what leads to a' -/
theorem Inv_CM {k : Nat} {b0 b1 : Bool} {a' : St} {h h1 h2 : Hp} (hv : VS (k + 1) a') (hC : IC (k + 1) a' (mx lC h1 h)) (hM : IM a' h2) (e0 : (sI0 a').isSome = b0) (e1 : (sI1 a').isSome = b1) : Inv (k + 1) b0 b1 (mx lM h2 (mx lC h1 h)) := by
  refine ⟨a', hv, IC_same (Nat.le_refl _) (fun r hr => mxM_ne _ _ (fun z => ?_)) hC, IM_M hM, e0, e1⟩
  have := lM_ge r z
  revert hr this; revert r; unfold clR; decide
theorem i32_of (x : Int32) : x = iI x.toInt := (Int32.ofInt_toInt x).symm
theorem i32_b (x : Int32) : -2147483648 ≤ x.toInt ∧ x.toInt < 2147483648 := ⟨Int32.le_toInt x, Int32.toInt_lt x⟩
theorem outK {x : Int32} {lo hi : Int} (h1 : -2147483648 ≤ lo) (h2 : lo < 2147483648) (h3 : -2147483648 ≤ hi) (h4 : hi < 2147483648) : K_C_isOutside x (iI lo) (iI hi) = some (if lo ≤ x.toInt ∧ x.toInt ≤ hi then 0 else 1) := by
  have hx := i32_b x
  unfold K_C_isOutside K_C_isOutside_J10
  have k1 : x < iI lo ↔ x.toInt < lo := by rw [Int32.lt_iff_toInt_lt, iI_toInt h1 h2]
  have k2 : x ≤ iI hi ↔ x.toInt ≤ hi := by rw [Int32.le_iff_toInt_le, iI_toInt h3 h4]
  by_cases c1 : x.toInt < lo
  · rw [if_pos (k1.mpr c1), if_neg (by omega)]
  · rw [if_neg (fun z => c1 (k1.mp z))]
    by_cases c2 : x.toInt ≤ hi
    · rw [if_pos (k2.mpr c2), if_pos (by omega)]
    · rw [if_neg (fun z => c2 (k2.mp z)), if_neg (by omega)]
theorem inMK {x : Int32} {lo hi : Int} (h1 : -2147483648 ≤ lo) (h2 : lo < 2147483648) (h3 : -2147483648 ≤ hi) (h4 : hi < 2147483648) : K_M_in (Int32.toInt64 x) (iL lo) (iL hi) = some (if lo ≤ x.toInt ∧ x.toInt ≤ hi then 1 else 0) := by
  have hx := i32_b x
  have e : Int32.toInt64 x = iL x.toInt := by
    have := toI64 (z := x.toInt) hx.1 hx.2
    rw [← i32_of x] at this
    exact this
  rw [e]
  exact inK (by omega) (by omega) (by omega)
theorem nat_of {x : Int32} {n : Nat} (h : 0 ≤ x.toInt ∧ x.toInt ≤ n) : ∃ j : Nat, j ≤ n ∧ x = nI j := ⟨x.toInt.toNat, by omega, by
  rw [nI_iI, Int.toNat_of_nonneg h.1]
  exact i32_of x⟩

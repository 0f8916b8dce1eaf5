/-! the reference: strokes -/
abbrev iL (z : Int) : Int64 := Int64.ofInt z
theorem iL_toInt {z : Int} (h1 : -4611686018427387904 ≤ z) (h2 : z < 4611686018427387904) : (iL z).toInt = z := Int64.toInt_ofInt_of_le (by omega) (by omega)
theorem toI64 {z : Int} (h1 : -2147483648 ≤ z) (h2 : z < 2147483648) : Int32.toInt64 (iI z) = iL z := by
  apply Int64.toInt_inj.mp
  rw [Int32.toInt_toInt64, iI_toInt h1 h2, iL_toInt (by omega) (by omega)]
theorem inK {x y z : Int} (hx : -4611686018427387904 ≤ x ∧ x < 4611686018427387904) (hy : -4611686018427387904 ≤ y ∧ y < 4611686018427387904) (hz : -4611686018427387904 ≤ z ∧ z < 4611686018427387904) : K_M_in (iL x) (iL y) (iL z) = some (if y ≤ x ∧ x ≤ z then 1 else 0) := by
  have tx := iL_toInt hx.1 hx.2
  have ty := iL_toInt hy.1 hy.2
  have tz := iL_toInt hz.1 hz.2
  have lt : ∀ a b : Int64, a > b ↔ b.toInt < a.toInt := fun a b => Int64.lt_iff_toInt_lt
  have eq : ∀ a b : Int64, a = b ↔ a.toInt = b.toInt := fun a b => Int64.toInt_inj.symm
  unfold K_M_in lg_cmp
  simp only [lt, eq, tx, ty, tz]
  by_cases c1 : y < x
  · have c1' : ¬ x < y := by omega
    rw [if_pos c1, if_neg (by decide)]
    by_cases c2 : z < x
    · rw [if_pos c2, if_pos (by decide), if_neg (by omega)]
    · rw [if_neg c2]
      by_cases c3 : x = z
      · rw [if_pos c3, if_neg (by decide), if_pos (by omega)]
      · rw [if_neg c3, if_neg (by decide), if_pos (by omega)]
  · rw [if_neg c1]
    by_cases c4 : x = y
    · rw [if_pos c4, if_neg (by decide)]
      by_cases c2 : z < x
      · rw [if_pos c2, if_pos (by decide), if_neg (by omega)]
      · rw [if_neg c2]
        by_cases c3 : x = z
        · rw [if_pos c3, if_neg (by decide), if_pos (by omega)]
        · rw [if_neg c3, if_neg (by decide), if_pos (by omega)]
    · rw [if_neg c4, if_pos (by decide), if_neg (by omega)]
def cM (ρ : Rv) (s : Nat) : Nat := rW ρ * (s / 8) + s % 8
def inR (ρ : Rv) (s : Nat) : Prop := s % 8 < rW ρ ∧ s / 8 < rH ρ
theorem inR_lt {ρ : Rv} (hW : WF ρ) {s : Nat} (h : inR ρ s) : s < 48 := by
  obtain ⟨h1, h2, -⟩ := hW
  obtain ⟨h3, h4⟩ := h
  omega
theorem okS_in {ρ : Rv} (hW : WF ρ) {s : Nat} (h : okS ρ s) : inR ρ s := by
  have h0 := hW.2.2.2.2.2.2.2.2.2.2.2.2.2.1 s
  by_cases h1 : s % 8 < rW ρ ∧ s / 8 < rH ρ
  · exact h1
  · exact absurd (h0 h1) h.2
theorem cM_b {ρ : Rv} (hW : WF ρ) {s : Nat} (h : inR ρ s) : cM ρ s < rW ρ * rH ρ ∧ cM ρ s % rW ρ = s % 8 ∧ cM ρ s / rW ρ = s / 8 := by
  obtain ⟨h3, h4⟩ := h
  unfold cM
  refine ⟨?_, ?_, ?_⟩
  · calc rW ρ * (s / 8) + s % 8 < rW ρ * (s / 8) + rW ρ := by omega
      _ = rW ρ * (s / 8 + 1) := by rw [Nat.mul_add, Nat.mul_one]
      _ ≤ rW ρ * rH ρ := Nat.mul_le_mul_left _ h4
  · rw [Nat.mul_add_mod, Nat.mod_eq_of_lt h3]
  · rw [Nat.mul_add_div (by omega), Nat.div_eq_of_lt h3, Nat.add_zero]
theorem WH_b {ρ : Rv} (hW : WF ρ) : rW ρ * rH ρ ≤ 48 := by
  have := Nat.mul_le_mul hW.1 hW.2.1
  omega
/-- the reference's river -/
def RM (ρ : Rv) (h : Hp) : Prop := h 104 0 = nI (rW ρ) ∧ h 104 1 = nI (rH ρ) ∧ h 104 2 = nI (rF ρ) ∧ h 104 3 = nI (rB ρ) ∧ h 104 4 = nI (rT ρ) ∧ h 104 5 = nI (rP ρ) ∧
  h 104 8 = (if rG ρ = 0 then -1 else nI (cM ρ (rG ρ - 1))) ∧ h 104 9 = (if rG ρ = 0 then -1 else nI (rGh ρ)) ∧ h 104 10 = iI ((rWw ρ : Int) - 1) ∧ h 104 11 = nI (rWe ρ) ∧ (∀ s, inR ρ s → h 103 (cM ρ s) = nI (kd ρ s)) ∧ (∀ j, j < 8 → h 105 j = nI (hbt ρ j))
theorem RM_of {ρ : Rv} {h h' : Hp} (e0 : h' 103 = h 103) (e1 : h' 104 = h 104) (e2 : h' 105 = h 105) (hR : RM ρ h) : RM ρ h' := by
  unfold RM at hR ⊢
  rw [e0, e1, e2]
  exact hR
theorem gA_lit {α : Type} {n : Nat} {f : Nat → Int32} {i : Nat} {k : Int32 → Option α} {x : Int32} (hx : x = nI i) (h : i < n) (hn : i < 2147483648) : gA n f x k = k (f i) := by
  rw [hx]; exact gA_nI h hn
theorem eastM {d : Nat} (hd : d < 8) : K_M_east (nI d) = some (iI (eI d)) := by
  have h : ∀ d, d < 8 → K_M_east (nI d) = some (iI (eI d)) := by decide
  exact h d hd
theorem northM {d : Nat} (hd : d < 8) : K_M_north (nI d) = some (iI (-(sI d))) := by
  have h : ∀ d, d < 8 → K_M_north (nI d) = some (iI (-(sI d))) := by decide
  exact h d hd
theorem isSquareM {ρ : Rv} {h : Hp} (hW : WF ρ) (hR : RM ρ h) {x y : Int} (hx : -1000 ≤ x ∧ x ≤ 1000) (hy : -1000 ≤ y ∧ y ≤ 1000) : K_M_isSquare (iI x) (iI y) h = some (if 0 ≤ x ∧ x < rW ρ ∧ 0 ≤ y ∧ y < rH ρ then 1 else 0) := by
  unfold K_M_isSquare
  have w := hW.1
  have w2 := hW.2.1
  have e1 : nI (rW ρ) - 1 = iI ((rW ρ : Int) - 1) := by rw [nI_iI]; exact iI_sub _ 1
  have e2 : nI (rH ρ) - 1 = iI ((rH ρ : Int) - 1) := by rw [nI_iI]; exact iI_sub _ 1
  rw [gA_lit (x := 0) (i := 0) rfl (by omega) (by omega), gA_lit (x := 1) (i := 1) rfl (by omega) (by omega), hR.1, hR.2.1, e1, e2, toI64 (by omega) (by omega), toI64 (by omega) (by omega), toI64 (by omega) (by omega), toI64 (by omega) (by omega)]
  rw [show (0 : Int64) = iL 0 from rfl, inK (by omega) (by omega) (by omega), bd_s, inK (by omega) (by omega) (by omega), bd_s]
  by_cases c1 : 0 ≤ x ∧ x ≤ (rW ρ : Int) - 1
  · rw [if_pos c1, if_neg (by decide)]
    by_cases c2 : 0 ≤ y ∧ y ≤ (rH ρ : Int) - 1
    · rw [if_pos c2, if_neg (by decide), if_pos (by omega)]
    · rw [if_neg c2, if_pos rfl, if_neg (by omega)]
  · rw [if_neg c1, if_pos rfl, if_neg (by omega)]
theorem besideM {ρ : Rv} {h : Hp} (hW : WF ρ) (hR : RM ρ h) {s d : Nat} (hs : inR ρ s) : K_M_beside (nI (cM ρ s)) (iI (eI d)) (iI (-(sI d))) h = some (nI (cM ρ (nb ρ s d))) := by
  unfold K_M_beside
  have w := hW.1
  have w2 := hW.2.1
  have hb := cM_b hW hs
  have hwh := WH_b hW
  have b1 := eI_b d
  have b2 := sI_b d
  obtain ⟨h3, h4⟩ := hs
  have x1 : rm32 (nI (cM ρ s)) (nI (rW ρ)) + iI (eI d) = iI (((s % 8 : Nat) : Int) + eI d) := by
    rw [nI_rem (by omega) (by omega) (by omega), hb.2.1, nI_iI, iI_add]
  have x2 : nI (cM ρ s) / nI (rW ρ) - iI (-(sI d)) = iI (((s / 8 : Nat) : Int) + sI d) := by
    rw [nI_div (by omega) (by omega) (by omega), hb.2.2, nI_iI, iI_sub]
    congr 1; omega
  rw [gA_lit (x := 0) (i := 0) rfl (by omega) (by omega), hR.1, dz_nI (by omega) (by omega), x1, nm_s, gA_lit (x := 0) (i := 0) rfl (by omega) (by omega), hR.1, dz_nI (by omega) (by omega), x2, nm_s]
  unfold nb
  generalize hx : ((s % 8 : Nat) : Int) + eI d = x at *
  generalize hy : ((s / 8 : Nat) : Int) + sI d = y at *
  rw [isSquareM hW hR (by omega) (by omega), bd_s]
  by_cases c1 : 0 ≤ x ∧ x < rW ρ ∧ 0 ≤ y ∧ y < rH ρ
  · rw [if_pos c1, if_neg (by decide), gA_lit (x := 0) (i := 0) rfl (by omega) (by omega), hR.1]
    have hin : inR ρ (y * 8 + x).toNat := by constructor <;> omega
    have hb2 := cM_b hW hin
    have e1 : iI y * nI (rW ρ) + iI x = nI (cM ρ (y * 8 + x).toNat) := by
      rw [nI_iI, iI_mul, iI_add, nI_iI]
      congr 1
      unfold cM
      have a1 : (y * 8 + x).toNat / 8 = y.toNat := by omega
      have a2 : (y * 8 + x).toNat % 8 = x.toNat := by omega
      rw [a1, a2, Int.natCast_add, Int.natCast_mul, Int.toNat_of_nonneg (by omega), Int.toNat_of_nonneg (by omega), Int.mul_comm]
    rw [e1, gA_nI (by omega) (by omega), hR.2.2.2.2.2.2.2.2.2.2.1 _ hin]
    have hk6 : kd ρ (y * 8 + x).toNat ≤ 6 := hW.2.2.2.2.2.2.2.2.2.2.2.2.1 _
    have c5 : nI (kd ρ (y * 8 + x).toNat) = (1 : Int32) ↔ kd ρ (y * 8 + x).toNat = 1 := nI_eq_iff (b := 1) (by omega) (by omega)
    rw [if_neg (show ¬ (x < 0 ∨ 8 ≤ x ∨ y < 0 ∨ 6 ≤ y) by omega)]
    by_cases c6 : kd ρ (y * 8 + x).toNat = 1
    · rw [if_pos (c5.mpr c6), if_pos c6]
    · rw [if_neg (fun z => c6 (c5.mp z)), if_neg c6, gA_lit (x := 0) (i := 0) rfl (by omega) (by omega), hR.1, e1]
  · rw [if_neg c1, if_pos rfl]
    by_cases c2 : x < 0 ∨ 8 ≤ x ∨ y < 0 ∨ 6 ≤ y
    · rw [if_pos c2]
    · rw [if_neg c2, if_pos]
      refine hW.2.2.2.2.2.2.2.2.2.2.2.2.2.1 _ (fun z => c1 ?_)
      omega
theorem nb_in {ρ : Rv} (hW : WF ρ) {s d : Nat} (h : inR ρ s) : inR ρ (nb ρ s d) := by
  unfold nb
  split
  · exact h
  · split
    · exact h
    · rename_i h1 h2
      exact okS_in hW ⟨by omega, h2⟩
theorem drivenM {ρ : Rv} {h : Hp} (hW : WF ρ) (hR : RM ρ h) {s w : Nat} (hs : inR ρ s) (hw : w < 4) : K_M_driven (nI (cM ρ s)) (nI w) h = some (nI (cM ρ (nb ρ s (2 * w)))) := by
  unfold K_M_driven
  have e : 2 * nI w = nI (2 * w) := nI_mul 2 w
  rw [e, eastM (by omega), bd_s, northM (by omega), bd_s, besideM hW hR hs, bd_s]
theorem hset_hset (h : Hp) (r k : Nat) (v w : Int32) : hset (hset h r k v) r k w = hset h r k w := by
  unfold hset
  rw [hrow_hrow, hrow_at]
  congr 1
  funext j; unfold upd; split <;> rfl
theorem hset_comm (h : Hp) (r : Nat) {k l : Nat} (v w : Int32) (hkl : k ≠ l) : hset (hset h r k v) r l w = hset (hset h r l w) r k v := by
  unfold hset
  rw [hrow_hrow, hrow_hrow, hrow_at, hrow_at]
  congr 1
  funext j; unfold upd
  by_cases h1 : j = l
  · by_cases h2 : j = k
    · omega
    · simp [h1, h2, Ne.symm hkl]
  · by_cases h2 : j = k
    · simp [h2, hkl]
    · simp [h1, h2]
theorem eI_4 (d : Nat) : eI (d + 4) = -(eI d) := by
  have h : ∀ j, j < 8 → ([0, 1, 1, 1, 0, -1, -1, -1] : List Int).getD ((j + 4) % 8) 0 = -(([0, 1, 1, 1, 0, -1, -1, -1] : List Int).getD j 0) := by decide
  unfold eI
  rw [← h (d % 8) (by omega)]
  congr 1; omega
theorem sI_4 (d : Nat) : sI (d + 4) = -(sI d) := by
  have h : ∀ j, j < 8 → ([-1, -1, 0, 1, 1, 1, 0, -1] : List Int).getD ((j + 4) % 8) 0 = -(([-1, -1, 0, 1, 1, 1, 0, -1] : List Int).getD j 0) := by decide
  unfold sI
  rw [← h (d % 8) (by omega)]
  congr 1; omega
theorem nbs_in {ρ : Rv} (hW : WF ρ) {d : Nat} : ∀ (n : Nat) {s : Nat}, inR ρ s → inR ρ (nbs ρ d n s)
  | 0, _, h => h
  | n + 1, _, h => nbs_in hW n (nb_in hW h)
/-- the pushes of one stroke -/
theorem pushL {ρ : Rv} (hW : WF ρ) (N : Nat) {d : Nat} (hd : d < 8) {w : Int} (hw : w = 1 ∨ w = -1) : ∀ (n N' : Nat) (h : Hp) (s : Nat), RM ρ h → n < 100 → n < N' → inR ρ s → h 100 14 = nI d → h 100 13 = nI (cM ρ s) →
    loopN (fun z_ : Int32 × Hp => K_M_strokeFrom_L69 N (iI w) z_.1 z_.2) N' (nI n, h) = some (hset h 100 13 (nI (cM ρ (nbs ρ (if w < 0 then d + 4 else d) n s)))) := by
  intro n
  induction n with
  | zero =>
    intro N' h s hR _ hN' hs h14 h13
    obtain ⟨N', rfl⟩ : ∃ m, N' = m + 1 := ⟨N' - 1, by omega⟩
    refine loopN_t N' ?_
    unfold K_M_strokeFrom_L69
    rw [if_pos (show nI 0 ≤ 0 by decide)]
    show some (Sum.inr h) = some (Sum.inr (hset h 100 13 (nI (cM ρ s))))
    rw [← h13]
    congr 2
    have e : upd (h 100) 13 (h 100 13) = h 100 := by
      funext j; unfold upd; split
      · rename_i z; rw [z]
      · rfl
    unfold hset
    rw [e, hrow_self]
  | succ n ih =>
    intro N' h s hR hn hN' hs h14 h13
    obtain ⟨N', rfl⟩ : ∃ m, N' = m + 1 := ⟨N' - 1, by omega⟩
    have hb := cM_b hW hs
    have hwh := WH_b hW
    have e1 : iI w * iI (eI d) = iI (eI (if w < 0 then d + 4 else d)) := by
      rw [iI_mul]; congr 1
      rcases hw with rfl | rfl
      · rw [if_neg (by omega)]; omega
      · rw [if_pos (by omega), eI_4]; omega
    have e2 : iI w * iI (-(sI d)) = iI (-(sI (if w < 0 then d + 4 else d))) := by
      rw [iI_mul]; congr 1
      rcases hw with rfl | rfl
      · rw [if_neg (by omega)]; omega
      · rw [if_pos (by omega), sI_4]; omega
    have hstep : K_M_strokeFrom_L69 N (iI w) (nI (n + 1)) h = some (.inl (nI n, hset h 100 13 (nI (cM ρ (nb ρ s (if w < 0 then d + 4 else d)))))) := by
      unfold K_M_strokeFrom_L69
      rw [if_neg (fun z => by
        have z : nI (n + 1) ≤ nI 0 := z
        rw [nI_le_iff (by omega) (by omega)] at z; omega), h14, eastM hd, bd_s, northM hd, bd_s, h13, e1, e2, besideM hW hR hs, bd_s, nm_s, nm_s, pk_m1]
    rw [loopN_s N' hstep]
    have := ih N' (hset h 100 13 (nI (cM ρ (nb ρ s (if w < 0 then d + 4 else d))))) (nb ρ s (if w < 0 then d + 4 else d)) (RM_of (hset_ne _ _ _ (by decide)) (hset_ne _ _ _ (by decide)) (hset_ne _ _ _ (by decide)) hR) (by omega) (by omega) (nb_in hW hs) (by rw [hset_at, upd_ne _ _ (by decide)]; exact h14) (by rw [hset_at, upd_at])
    rw [this, hset_hset]
    rfl
theorem turnByM {ρ : Rv} {h : Hp} (hW : WF ρ) (hR : RM ρ h) {kn : Nat} (hk : kn ≤ 9) (hm : h 100 12 = nI kn) {p : Nat} (hp : p < 16) : K_M_turnBy (nI (p / 4)) (nI (p % 4)) h = some (iI (trI ρ kn p)) := by
  have hs : ∀ a, a < 4 → K_M_side (nI a) = some (iI (sdI a)) := by decide
  unfold K_M_turnBy
  have hT := hW.2.2.2.2.2.1
  have b1 := trN_b hW hk p
  rw [hs _ (by omega), bd_s, gA_lit (x := 2) (i := 2) rfl (by omega) (by omega), hs _ (Nat.mod_lt _ (by decide)), bd_s, gA_lit (x := 3) (i := 3) rfl (by omega) (by omega), gA_lit (x := 4) (i := 4) rfl (by omega) (by omega), hR.2.2.1, hR.2.2.2.1, hR.2.2.2.2.1, hm, dz_nI (by omega) (by omega), nI_add]
  have x1 : iI (sdI (p / 4)) * nI (rF ρ + kn) + 2 * iI (sdI (p % 4)) * nI (rB ρ) = iI (((rF ρ + kn : Nat) : Int) * sdI (p / 4) + 2 * (rB ρ : Int) * sdI (p % 4)) := by
    rw [nI_iI, nI_iI]
    show iI _ * iI _ + iI 2 * iI _ * iI _ = _
    rw [iI_mul, iI_mul, iI_mul, iI_add]
    congr 1
    rw [Int.mul_comm, Int.mul_right_comm]
  rw [x1, nI_iI (rT ρ), iI_div (by omega) (by omega) (by omega) (by omega)]
  rfl
theorem pushByM {ρ : Rv} {h : Hp} (hW : WF ρ) (hR : RM ρ h) {kn : Nat} (hk : kn ≤ 9) (hm : h 100 12 = nI kn) {p : Nat} (hp : p < 16) : K_M_pushBy (nI (p / 4)) (nI (p % 4)) h = some (iI (psI ρ kn p)) := by
  have hs : ∀ a, a < 4 → K_M_strike (nI a) = some (iI (pkI a)) := by decide
  unfold K_M_pushBy
  have hP := hW.2.2.2.2.2.2.1
  have b1 := psN_b hW hk p
  rw [hs _ (by omega), bd_s, gA_lit (x := 2) (i := 2) rfl (by omega) (by omega), hs _ (Nat.mod_lt _ (by decide)), bd_s, gA_lit (x := 3) (i := 3) rfl (by omega) (by omega), gA_lit (x := 5) (i := 5) rfl (by omega) (by omega), hR.2.2.1, hR.2.2.2.1, hR.2.2.2.2.2.1, hm, dz_nI (by omega) (by omega), nI_add]
  have x1 : iI (pkI (p / 4)) * nI (rF ρ + kn) + iI (pkI (p % 4)) * nI (rB ρ) = iI (((rF ρ + kn : Nat) : Int) * pkI (p / 4) + (rB ρ : Int) * pkI (p % 4)) := by
    rw [nI_iI, nI_iI, iI_mul, iI_mul, iI_add]
    congr 1
    rw [Int.mul_comm, Int.mul_comm (pkI (p % 4))]
  rw [x1, nI_iI (rP ρ), iI_div (by omega) (by omega) (by omega) (by omega), nm_s]
  have bq := tdiv_b (b := (rP ρ : Int)) b1.1 b1.2 (by omega)
  show _ = some (iI (clI _))
  generalize (((rF ρ + kn : Nat) : Int) * pkI (p / 4) + (rB ρ : Int) * pkI (p % 4)).tdiv (rP ρ) = v at bq ⊢
  have c1 : iI v ≤ (2 : Int32) ↔ v ≤ 2 := iI_le_iff (b := 2) (by omega) (by omega) (by omega) (by omega)
  have e2 : (-2 : Int32) = iI (-2) := by decide
  rw [e2]
  have c2 : iI (-2) ≤ iI v ↔ -2 ≤ v := iI_le_iff (by omega) (by omega) (by omega) (by omega)
  unfold clI
  by_cases h1 : v ≤ 2
  · rw [if_pos (c1.mpr h1)]
    by_cases h2 : -2 ≤ v
    · rw [if_pos (c2.mpr h2), if_neg (by omega), if_neg (by omega)]
    · rw [if_neg (fun z => h2 (c2.mp z)), if_pos (by omega)]
  · rw [if_neg (fun z => h1 (c1.mp z)), if_neg (by omega), if_pos (by omega)]; rfl

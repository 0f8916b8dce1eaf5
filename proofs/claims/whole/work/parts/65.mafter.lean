/-! the reference: a whole stroke, moments and states, the goal -/
/-- what a stroke leaves in the reference's scratch: the heading, the square -/
def nx (h : Hp) (d c : Nat) : Hp := hset (hset h 100 14 (nI d)) 100 13 (nI c)
theorem nx_ne (h : Hp) (d c : Nat) {r : Nat} (hr : r ≠ 100) : nx h d c r = h r := by
  unfold nx; rw [hset_ne _ _ _ hr, hset_ne _ _ _ hr]
theorem nx_f (h : Hp) (d c : Nat) {k : Nat} (h1 : k ≠ 13) (h2 : k ≠ 14) : nx h d c 100 k = h 100 k := by
  unfold nx; rw [hset_at, upd_ne _ _ h1, hset_at, upd_ne _ _ h2]
theorem nx_13 (h : Hp) (d c : Nat) : nx h d c 100 13 = nI c := by unfold nx; rw [hset_at, upd_at]
theorem nx_14 (h : Hp) (d c : Nat) : nx h d c 100 14 = nI d := by unfold nx; rw [hset_at, upd_ne _ _ (by decide), hset_at, upd_at]
theorem nx_nx (h : Hp) (d c d' c' : Nat) : nx (nx h d c) d' c' = nx h d' c' := by
  unfold nx
  rw [hset_comm (hset h 100 14 (nI d)) 100 _ _ (by decide), hset_hset, hset_hset]
theorem nx_13' (h : Hp) (d c c' : Nat) : hset (nx h d c) 100 13 (nI c') = nx h d c' := by unfold nx; rw [hset_hset]
theorem RM_nx {ρ : Rv} {h : Hp} (d c : Nat) (hR : RM ρ h) : RM ρ (nx h d c) := RM_of (nx_ne _ _ _ (by decide)) (nx_ne _ _ _ (by decide)) (nx_ne _ _ _ (by decide)) hR
theorem J149M (N : Nat) (v : Int32) (h : Hp) : K_M_strokeFrom_J149 N v h = some (hset h 100 13 v) := rfl
theorem pu_in {ρ : Rv} (hW : WF ρ) {s d : Nat} {q : Int} (h : inR ρ s) : inR ρ (pu0 ρ s d q) ∧ inR ρ (pu ρ s d q) := by
  have h1 : inR ρ (pu0 ρ s d q) := by
    unfold pu0
    split
    · exact h
    · exact nbs_in hW _ h
  refine ⟨h1, ?_⟩
  unfold pu stm
  split
  · exact nb_in hW h1
  · exact h1
theorem bl_in {ρ : Rv} (hW : WF ρ) {s : Nat} (h : inR ρ s) : inR ρ (bl ρ s) := by
  unfold bl
  split
  · exact h
  · exact nb_in hW h
theorem J112M {ρ : Rv} (hW : WF ρ) (N : Nat) {h : Hp} (hR : RM ρ h) {s : Nat} (hs : inR ρ s) (h13 : h 100 13 = nI (cM ρ s)) : K_M_strokeFrom_J112 N h = some (hset h 100 13 (nI (cM ρ (stm ρ s)))) := by
  unfold K_M_strokeFrom_J112
  have hb := cM_b hW hs
  have hwh := WH_b hW
  have hk6 : kd ρ s ≤ 6 := hW.2.2.2.2.2.2.2.2.2.2.2.2.1 _
  rw [h13, gA_nI (by omega) (by omega), hR.2.2.2.2.2.2.2.2.2.2.1 _ hs]
  have c : nI (kd ρ s) ≤ (2 : Int32) ↔ kd ρ s ≤ 2 := nI_le_iff (b := 2) (by omega) (by omega)
  unfold stm
  by_cases h2 : kd ρ s ≤ 2
  · rw [if_pos (c.mpr h2), if_neg (by omega), J149M]
  · have e : nI (kd ρ s) - 3 = nI (kd ρ s - 3) := nI_sub (b := 3) (by omega)
    rw [if_neg (fun z => h2 (c.mp z)), if_pos (by omega), e, drivenM hW hR hs (by omega), bd_s, J149M]
theorem strokeFromM {ρ : Rv} (hW : WF ρ) (N : Nat) (hN : 10 < N) {h : Hp} (hR : RM ρ h) {kn : Nat} (hk : kn ≤ 9) (hm : h 100 12 = nI kn) {s d p : Nat} (hs : inR ρ s) (hd : d < 8) (hp : p < 16) :
    K_M_strokeFrom N (nI (cM ρ s)) (nI d) (nI (p / 4)) (nI (p % 4)) h = some (nx h (dd d (trI ρ kn p)) (cM ρ (pu ρ s (dd d (trI ρ kn p)) (psI ρ kn p)))) := by
  unfold K_M_strokeFrom
  have hb := cM_b hW hs
  have hwh := WH_b hW
  have bt := trI_b hW hk p
  have bp := psI_b ρ kn p
  rw [turnByM hW hR hk hm hp, bd_s, nm_s]
  have e1 : rm32 ((nI d + rm32 (iI (trI ρ kn p)) 8) + 8) 8 = nI (dd d (trI ρ kn p)) := by
    generalize trI ρ kn p = t at bt ⊢
    have e8 : (8 : Int32) = iI 8 := rfl
    have b1 : -7 ≤ t - t.tdiv 8 * 8 ∧ t - t.tdiv 8 * 8 ≤ 7 := by
      rcases Int.le_total 0 t with h0 | h0
      · rw [Int.tdiv_eq_ediv_of_nonneg h0]; omega
      · have e : t.tdiv 8 = -((-t) / 8) := by
          rw [← Int.tdiv_eq_ediv_of_nonneg (by omega : 0 ≤ -t), Int.neg_tdiv, Int.neg_neg]
        rw [e]; omega
    have e2 : rm32 (iI t) 8 = iI (t - t.tdiv 8 * 8) := by
      show iI t - iI t / 8 * 8 = _
      rw [e8, iI_div (by omega) (by omega) (by omega) (by omega), iI_mul, iI_sub]
    have e3 : nI d + iI (t - t.tdiv 8 * 8) + 8 = nI (((d : Int) + (t - t.tdiv 8 * 8) + 8).toNat) := by
      rw [nI_iI, iI_add]
      show _ + iI 8 = _
      rw [iI_add, nI_iI]; congr 1; omega
    rw [e2, e3, show rm32 (nI (((d : Int) + (t - t.tdiv 8 * 8) + 8).toNat)) 8 = _ from nI_rem (d := 8) (by omega) (by omega) (by omega)]
    congr 1
    unfold dd
    show _ = (((d : Int) + t) % 8).toNat
    generalize t.tdiv 8 = z at b1 ⊢
    omega
  rw [e1]
  have hdd := dd_lt d (trI ρ kn p)
  generalize dd d (trI ρ kn p) = d' at hdd ⊢
  rw [nm_s]
  have hR1 : RM ρ (hset h 100 14 (nI d')) := RM_of (hset_ne _ _ _ (by decide)) (hset_ne _ _ _ (by decide)) (hset_ne _ _ _ (by decide)) hR
  have hm1 : (hset h 100 14 (nI d')) 100 12 = nI kn := by rw [hset_at, upd_ne _ _ (by decide)]; exact hm
  rw [pushByM hW hR1 hk hm1 hp, bd_s, nm_s]
  generalize psI ρ kn p = q at bp ⊢
  have hR2 : RM ρ (hset (hset h 100 14 (nI d')) 100 13 (nI (cM ρ s))) := RM_of (hset_ne _ _ _ (by decide)) (hset_ne _ _ _ (by decide)) (hset_ne _ _ _ (by decide)) hR1
  have e14 : (hset (hset h 100 14 (nI d')) 100 13 (nI (cM ρ s))) 100 14 = nI d' := nx_14 _ _ _
  have e13 : (hset (hset h 100 14 (nI d')) 100 13 (nI (cM ρ s))) 100 13 = nI (cM ρ s) := nx_13 _ _ _
  have hk6 : kd ρ s ≤ 6 := hW.2.2.2.2.2.2.2.2.2.2.2.2.1 _
  rw [gA_nI (by omega) (by omega), hR2.2.2.2.2.2.2.2.2.2.2.1 _ hs]
  have c : nI (kd ρ s) = (2 : Int32) ↔ kd ρ s = 2 := nI_eq_iff (b := 2) (by omega) (by omega)
  unfold pu pu0
  by_cases h2 : kd ρ s = 2
  · rw [if_pos (c.mpr h2), J112M hW N hR2 hs e13]
    simp only [h2, if_true]
    exact congrArg some (nx_13' h d' (cM ρ s) _)
  · rw [if_neg (fun z => h2 (c.mp z))]
    simp only [h2, if_false]
    have c0 : (0 : Int32) ≤ iI q ↔ 0 ≤ q := iI_le_iff (a := 0) (by omega) (by omega) (by omega) (by omega)
    have main : ∀ w : Int, (w = 1 ∨ w = -1) → w * q = q.natAbs → (w < 0 ↔ q < 0) → K_M_strokeFrom_J60 N (iI q) (iI w) (hset (hset h 100 14 (nI d')) 100 13 (nI (cM ρ s))) = some (nx h d' (cM ρ (stm ρ (nbs ρ (if q < 0 then d' + 4 else d') q.natAbs s)))) := by
      intro w hw hwq hwq2
      unfold K_M_strokeFrom_J60
      have e1 : iI q * iI w = nI q.natAbs := by rw [iI_mul, nI_iI, ← hwq, Int.mul_comm]
      rw [nm_s, e1, pushL hW N hdd hw q.natAbs N _ s hR2 (by omega) (by omega) hs e14 e13, bd_s]
      have hin := nbs_in hW (d := if w < 0 then d' + 4 else d') q.natAbs hs
      have hR3 := RM_of (h' := hset (hset (hset h 100 14 (nI d')) 100 13 (nI (cM ρ s))) 100 13 (nI (cM ρ (nbs ρ (if w < 0 then d' + 4 else d') q.natAbs s)))) (hset_ne _ _ _ (by decide)) (hset_ne _ _ _ (by decide)) (hset_ne _ _ _ (by decide)) hR2
      rw [J112M hW N hR3 hin (by rw [hset_at, upd_at]), hset_hset, hset_hset]
      by_cases hq : q < 0
      · rw [if_pos (hwq2.mpr hq), if_pos hq]; rfl
      · rw [if_neg (fun z => hq (hwq2.mp z)), if_neg hq]; rfl
    by_cases h0 : 0 ≤ q
    · rw [if_pos (c0.mpr h0)]
      exact main 1 (Or.inl rfl) (by omega) (by omega)
    · have em1 : (-1 : Int32) = iI (-1) := by decide
      rw [if_neg (fun z => h0 (c0.mp z)), em1]
      exact main (-1) (Or.inr rfl) (by omega) (by omega)
theorem timesM {ρ : Rv} (hW : WF ρ) {h : Hp} (hR : RM ρ h) : K_M_times h = some (nI (tmv ρ)) := by
  unfold K_M_times
  have h1 := hW.2.2.2.2.2.2.2.2.2.1
  have h2 := hW.2.2.2.2.2.2.2.2.2.2.1
  have h3 := hW.2.2.2.2.2.2.2.2.2.2.2.1
  rw [gA_lit (x := 10) (i := 10) rfl (by omega) (by omega), hR.2.2.2.2.2.2.2.2.1]
  have c0 : (0 : Int32) ≤ iI ((rWw ρ : Int) - 1) ↔ 0 ≤ (rWw ρ : Int) - 1 := iI_le_iff (a := 0) (by omega) (by omega) (by omega) (by omega)
  unfold tmv
  by_cases h0 : rWw ρ = 0
  · rw [if_neg (fun z => by have := c0.mp z; omega), if_neg (by omega)]; rfl
  · rw [if_pos (c0.mpr (by omega)), gA_lit (x := 11) (i := 11) rfl (by omega) (by omega), hR.2.2.2.2.2.2.2.2.2.1]
    by_cases h4 : 1 < rWe ρ
    · rw [if_pos h4]
    · rw [if_neg h4]
      have : rWe ρ = 1 := by omega
      rw [this]
/-- the wind behind the stroke that is counted n (n the strokes counted, this one too) -/
theorem windAtM {ρ : Rv} (hW : WF ρ) {h : Hp} (hR : RM ρ h) {s d n : Nat} (hs : inR ρ s) (hn : n < 2147483648) :
    K_M_windAt (nI n) (nx h d (cM ρ s)) = some (nx h d (cM ρ (if n % tmv ρ = 0 then bl ρ s else s))) := by
  unfold K_M_windAt
  have h1 := hW.2.2.2.2.2.2.2.2.2.1
  have h2 := hW.2.2.2.2.2.2.2.2.2.2.1
  have h3 := hW.2.2.2.2.2.2.2.2.2.2.2.1
  have hR1 := RM_nx d (cM ρ s) hR
  rw [gA_lit (x := 10) (i := 10) rfl (by omega) (by omega), hR1.2.2.2.2.2.2.2.2.1]
  have c0 : iI ((rWw ρ : Int) - 1) < (0 : Int32) ↔ (rWw ρ : Int) - 1 < 0 := iI_lt_iff (b := 0) (by omega) (by omega) (by omega) (by omega)
  have no : K_M_windAt_J26 (nx h d (cM ρ s)) = some (nx h d (cM ρ s)) := by
    show K_M_windAt_J55 ((nx h d (cM ρ s)) 100 13) (nx h d (cM ρ s)) = _
    rw [nx_13]
    show some (hset (nx h d (cM ρ s)) 100 13 (nI (cM ρ s))) = _
    rw [nx_13']
  by_cases h0 : rWw ρ = 0
  · rw [if_pos (c0.mpr (by omega)), no]
    have : bl ρ s = s := by unfold bl; rw [if_pos h0]
    rw [this]
    split <;> rfl
  · have ht : tmv ρ = rWe ρ := by unfold tmv; split <;> omega
    rw [if_neg (fun z => by have := c0.mp z; omega), gA_lit (x := 11) (i := 11) rfl (by omega) (by omega), hR1.2.2.2.2.2.2.2.2.2.1, dz_nI (by omega) (by omega), nI_rem hn (by omega) (by omega), ht]
    have hlt : n % rWe ρ < rWe ρ := Nat.mod_lt _ (by omega)
    have c1 : nI (n % rWe ρ) = (0 : Int32) ↔ n % rWe ρ = 0 := nI_eq_iff (b := 0) (by omega) (by omega)
    by_cases h4 : n % rWe ρ = 0
    · rw [if_pos (c1.mpr h4), if_pos h4]
      unfold K_M_windAt_J27
      have e : iI ((rWw ρ : Int) - 1) = nI (rWw ρ - 1) := by rw [nI_iI]; congr 1; omega
      rw [if_neg (by decide), gA_lit (x := 10) (i := 10) rfl (by omega) (by omega), hR1.2.2.2.2.2.2.2.2.1, nx_13, e, drivenM hW hR1 hs (by omega), bd_s]
      unfold bl
      rw [if_neg h0]
      show some (hset (nx h d (cM ρ s)) 100 13 _) = _
      rw [nx_13']
    · rw [if_neg (fun z => h4 (c1.mp z)), if_neg h4, no]
/-- the reference's number of a moment -/
def eM (ρ : Rv) (mm : Nat) : Nat := (cM ρ (mm % 384 / 8) * 8 + mm % 8) * tmv ρ + mm / 384
theorem stateOfM {ρ : Rv} (hW : WF ρ) {h : Hp} (hR : RM ρ h) {s d n : Nat} (hs : inR ρ s) (hd : d < 8) (hn : n < 2147483648) : K_M_stateOf (nI (cM ρ s)) (nI d) (nI n) h = some (nI (eM ρ (384 * (n % tmv ρ) + (8 * s + d)))) := by
  unfold K_M_stateOf
  have ht := tmv_b hW
  have hb := cM_b hW hs
  have hwh := WH_b hW
  have hs48 := inR_lt hW hs
  rw [timesM hW hR, bd_s, bd_s, dz_nI (by omega) (by omega), nI_rem hn (by omega) (by omega)]
  congr 1
  show (nI _ * nI 8 + nI d) * nI (tmv ρ) + _ = _
  rw [nI_mul, nI_add, nI_mul, nI_add]
  unfold eM
  have a1 : (384 * (n % tmv ρ) + (8 * s + d)) % 384 / 8 = s := by omega
  have a2 : (384 * (n % tmv ρ) + (8 * s + d)) % 8 = d := by omega
  have a3 : (384 * (n % tmv ρ) + (8 * s + d)) / 384 = n % tmv ρ := by omega
  rw [a1, a2, a3]
theorem eM_parts {ρ : Rv} (hW : WF ρ) {mm : Nat} (hm : mm / 384 < tmv ρ) (hs : inR ρ (mm % 384 / 8)) : eM ρ mm < 3456 ∧ eM ρ mm % tmv ρ = mm / 384 ∧ eM ρ mm / tmv ρ / 8 = cM ρ (mm % 384 / 8) ∧ eM ρ mm / tmv ρ % 8 = mm % 8 ∧ eM ρ mm < rW ρ * rH ρ * 8 * tmv ρ := by
  have ht := tmv_b hW
  have hb := cM_b hW hs
  have hwh := WH_b hW
  unfold eM
  have e1 : ((cM ρ (mm % 384 / 8) * 8 + mm % 8) * tmv ρ + mm / 384) / tmv ρ = cM ρ (mm % 384 / 8) * 8 + mm % 8 := by
    rw [Nat.add_comm, Nat.add_mul_div_right _ _ (by omega), Nat.div_eq_of_lt hm, Nat.zero_add]
  have e2 : ((cM ρ (mm % 384 / 8) * 8 + mm % 8) * tmv ρ + mm / 384) % tmv ρ = mm / 384 := by
    rw [Nat.add_comm, Nat.add_mul_mod_self_right, Nat.mod_eq_of_lt hm]
  have e3 : (cM ρ (mm % 384 / 8) * 8 + mm % 8) * tmv ρ + mm / 384 < rW ρ * rH ρ * 8 * tmv ρ := by
    have a1 : cM ρ (mm % 384 / 8) * 8 + mm % 8 + 1 ≤ rW ρ * rH ρ * 8 := by omega
    calc (cM ρ (mm % 384 / 8) * 8 + mm % 8) * tmv ρ + mm / 384 < (cM ρ (mm % 384 / 8) * 8 + mm % 8) * tmv ρ + tmv ρ := by omega
      _ = (cM ρ (mm % 384 / 8) * 8 + mm % 8 + 1) * tmv ρ := (Nat.succ_mul _ _).symm
      _ ≤ rW ρ * rH ρ * 8 * tmv ρ := Nat.mul_le_mul_right _ a1
  have e4 : rW ρ * rH ρ * 8 * tmv ρ ≤ 3456 := by
    have a1 : rW ρ * rH ρ * 8 ≤ 384 := by omega
    have := Nat.mul_le_mul a1 ht.2
    omega
  refine ⟨by omega, e2, ?_, ?_, e3⟩
  · rw [e1]; omega
  · rw [e1]; omega
/-- a moment that the boat can be in -/
def okM (ρ : Rv) (mm : Nat) : Prop := mm / 384 < tmv ρ ∧ okS ρ (mm % 384 / 8)
theorem okM_lt {ρ : Rv} (hW : WF ρ) {mm : Nat} (h : okM ρ mm) : mm < 3456 := by
  have ht := tmv_b hW
  have := h.1
  omega
theorem aft_ok {ρ : Rv} (hW : WF ρ) {kn mm p : Nat} (h : okM ρ mm) : okM ρ (aft ρ kn mm p) := by
  obtain ⟨h1, h2⟩ := h
  refine ⟨(aft_lt h1 hW).1, ?_⟩
  have ht := tmv_b hW
  have hu : mm % 384 < 384 := Nat.mod_lt _ (by decide)
  have hd := dd_lt (mm % 384 % 8) (trI ρ kn p)
  have h3 : okS ρ (pu ρ (mm % 384 / 8) (dd (mm % 384 % 8) (trI ρ kn p)) (psI ρ kn p)) := pu_ok h2
  unfold aft
  split
  · unfold cal
    have e : (384 * (mm / 384 + 1) + (8 * pu ρ (mm % 384 / 8) (dd (mm % 384 % 8) (trI ρ kn p)) (psI ρ kn p) + dd (mm % 384 % 8) (trI ρ kn p))) % 384 / 8 = pu ρ (mm % 384 / 8) (dd (mm % 384 % 8) (trI ρ kn p)) (psI ρ kn p) := by
      have := h3.1; omega
    rw [e]; exact h3
  · unfold gus cal
    have e1 : (8 * pu ρ (mm % 384 / 8) (dd (mm % 384 % 8) (trI ρ kn p)) (psI ρ kn p) + dd (mm % 384 % 8) (trI ρ kn p)) / 8 = pu ρ (mm % 384 / 8) (dd (mm % 384 % 8) (trI ρ kn p)) (psI ρ kn p) := by omega
    rw [e1]
    have h4 := bl_ok h3
    have e : (8 * bl ρ (pu ρ (mm % 384 / 8) (dd (mm % 384 % 8) (trI ρ kn p)) (psI ρ kn p)) + (8 * pu ρ (mm % 384 / 8) (dd (mm % 384 % 8) (trI ρ kn p)) (psI ρ kn p) + dd (mm % 384 % 8) (trI ρ kn p)) % 8) % 384 / 8 = bl ρ (pu ρ (mm % 384 / 8) (dd (mm % 384 % 8) (trI ρ kn p)) (psI ρ kn p)) := by
      have := h4.1; omega
    rw [e]; exact h4
/-- what a stroke of both leaves: the calm square, then the wind's -/
theorem aft_parts {ρ : Rv} (hW : WF ρ) {kn mm p n : Nat} (hn : n % tmv ρ = mm / 384) (hs : mm % 384 / 8 < 48) :
    aft ρ kn mm p % 384 / 8 = (if (n + 1) % tmv ρ = 0 then bl ρ (pu ρ (mm % 384 / 8) (dd (mm % 8) (trI ρ kn p)) (psI ρ kn p)) else pu ρ (mm % 384 / 8) (dd (mm % 8) (trI ρ kn p)) (psI ρ kn p)) ∧ aft ρ kn mm p % 8 = dd (mm % 8) (trI ρ kn p) ∧ aft ρ kn mm p / 384 = (n + 1) % tmv ρ := by
  have ht := tmv_b hW
  have hd := dd_lt (mm % 8) (trI ρ kn p)
  have hp := pu_lt (ρ := ρ) (s := mm % 384 / 8) (d := dd (mm % 8) (trI ρ kn p)) (q := psI ρ kn p) hs
  have e0 : mm % 384 % 8 = mm % 8 := by omega
  have hlt : n % tmv ρ < tmv ρ := Nat.mod_lt _ (by omega)
  have e5 : (n + 1) % tmv ρ = if mm / 384 + 1 < tmv ρ then mm / 384 + 1 else 0 := by
    rw [Nat.add_mod, hn]
    by_cases h1 : 1 < tmv ρ
    · rw [Nat.mod_eq_of_lt h1]
      split
      · rename_i h2; rw [Nat.mod_eq_of_lt h2]
      · have : mm / 384 + 1 = tmv ρ := by omega
        rw [this, Nat.mod_self]
    · have : tmv ρ = 1 := by omega
      rw [this, if_neg (by omega)]; omega
  rw [e5]
  unfold aft cal gus
  rw [e0]
  generalize pu ρ (mm % 384 / 8) (dd (mm % 8) (trI ρ kn p)) (psI ρ kn p) = s1 at hp ⊢
  generalize dd (mm % 8) (trI ρ kn p) = d1 at hd ⊢
  have hb1 := bl_lt (ρ := ρ) hp
  by_cases h1 : mm / 384 + 1 < tmv ρ
  · rw [if_pos h1, if_pos h1, if_neg (by omega)]
    omega
  · rw [if_neg h1, if_neg h1, if_pos rfl]
    have e1 : (8 * s1 + d1) / 8 = s1 := by omega
    rw [e1]
    omega
theorem afterM {ρ : Rv} (hW : WF ρ) (N : Nat) (hN : 10 < N) {h : Hp} (hR : RM ρ h) {kn : Nat} (hk : kn ≤ 9) (hm : h 100 12 = nI kn) {mm p : Nat} (hmm : mm / 384 < tmv ρ) (hs : inR ρ (mm % 384 / 8)) (hp : p < 16) :
    K_M_after N (nI (eM ρ mm)) (nI (p / 4)) (nI (p % 4)) h = some (nI (eM ρ (aft ρ kn mm p)), nx h (aft ρ kn mm p % 8) (cM ρ (aft ρ kn mm p % 384 / 8))) := by
  unfold K_M_after
  have ht := tmv_b hW
  obtain ⟨e1, e2, e3, e4, -⟩ := eM_parts hW hmm hs
  have hlt := inR_lt hW hs
  obtain ⟨q1, q2, q3⟩ := aft_parts hW (kn := kn) (mm := mm) (p := p) (n := mm / 384) (Nat.mod_eq_of_lt hmm) hlt
  have x2 : nI (eM ρ mm) / nI (tmv ρ) = nI (eM ρ mm / tmv ρ) := nI_div (by omega) (by omega) (by omega)
  have hle : eM ρ mm / tmv ρ ≤ eM ρ mm := Nat.div_le_self _ _
  have x3 : nI (eM ρ mm / tmv ρ) / 8 = nI (cM ρ (mm % 384 / 8)) := by rw [← e3]; exact nI_div (d := 8) (by omega) (by omega) (by omega)
  have x4 : rm32 (nI (eM ρ mm / tmv ρ)) 8 = nI (mm % 8) := by rw [← e4]; exact nI_rem (d := 8) (by omega) (by omega) (by omega)
  rw [timesM hW hR, bd_s, dz_nI (by omega) (by omega), nI_rem (by omega) (by omega) (by omega), e2, nI_1, nm_s, bd_s, dz_nI (by omega) (by omega), x2, nm_s, x3, x4, strokeFromM hW N hN hR hk hm hs (Nat.mod_lt _ (by decide)) hp, bd_s]
  have hin := (pu_in hW (d := dd (mm % 8) (trI ρ kn p)) (q := psI ρ kn p) hs).2
  rw [windAtM hW hR hin (by omega), bd_s, nx_13, nx_14, ← q1]
  have hin2 : inR ρ (aft ρ kn mm p % 384 / 8) := by
    rw [q1]; split
    · exact bl_in hW hin
    · exact hin
  rw [stateOfM hW (RM_nx _ _ hR) hin2 (dd_lt _ _) (by omega), bd_s, ← q3, ← q2]
  have e9 : 384 * (aft ρ kn mm p / 384) + (8 * (aft ρ kn mm p % 384 / 8) + aft ρ kn mm p % 8) = aft ρ kn mm p := by omega
  rw [e9]

/-! the class: crews, strokes -/
theorem clI_b (v : Int) : -2 ≤ clI v ∧ clI v ≤ 2 := by
  unfold clI; split
  · omega
  · split <;> omega
theorem psI_b (ρ : Rv) (kn p : Nat) : -2 ≤ psI ρ kn p ∧ psI ρ kn p ≤ 2 := clI_b _
theorem sdI_b (a : Nat) : -1 ≤ sdI a ∧ sdI a ≤ 1 := by
  unfold sdI; split
  · omega
  · split <;> omega
theorem pkI_b (a : Nat) : -1 ≤ pkI a ∧ pkI a ≤ 1 := by
  unfold pkI; split
  · omega
  · split <;> omega
theorem mul_b {a b x : Int} (ha : 0 ≤ a) (hb : a ≤ b) (h1 : -1 ≤ x) (h2 : x ≤ 1) : -b ≤ a * x ∧ a * x ≤ b := by
  rcases (show x = -1 ∨ x = 0 ∨ x = 1 by omega) with rfl | rfl | rfl <;> omega
theorem tdiv_b {a b c : Int} (h1 : -c ≤ a) (h2 : a ≤ c) (hb : 0 < b) : -c ≤ a.tdiv b ∧ a.tdiv b ≤ c := by
  rcases Int.le_total 0 a with h | h
  · have := Int.tdiv_nonneg h (by omega : 0 ≤ b)
    have := Int.tdiv_le_self b h
    omega
  · have e : a.tdiv b = -((-a).tdiv b) := by rw [Int.neg_tdiv, Int.neg_neg]
    have := Int.tdiv_nonneg (by omega : 0 ≤ -a) (by omega : 0 ≤ b)
    have := Int.tdiv_le_self b (by omega : 0 ≤ -a)
    omega
theorem trN_b {ρ : Rv} (hW : WF ρ) {kn : Nat} (hk : kn ≤ 9) (p : Nat) : -36 ≤ ((rF ρ + kn : Nat) : Int) * sdI (p / 4) + 2 * (rB ρ : Int) * sdI (p % 4) ∧ ((rF ρ + kn : Nat) : Int) * sdI (p / 4) + 2 * (rB ρ : Int) * sdI (p % 4) ≤ 36 := by
  obtain ⟨-, -, -, hF, hB, -⟩ := hW
  have a1 := sdI_b (p / 4)
  have a2 := sdI_b (p % 4)
  have a3 := mul_b (a := ((rF ρ + kn : Nat) : Int)) (b := 18) (by omega) (by omega) a1.1 a1.2
  have a4 := mul_b (a := 2 * (rB ρ : Int)) (b := 18) (by omega) (by omega) a2.1 a2.2
  omega
theorem trI_b {ρ : Rv} (hW : WF ρ) {kn : Nat} (hk : kn ≤ 9) (p : Nat) : -36 ≤ trI ρ kn p ∧ trI ρ kn p ≤ 36 := by
  have h := trN_b hW hk p
  obtain ⟨-, -, -, -, -, hT, -⟩ := hW
  exact tdiv_b h.1 h.2 (by omega)
theorem psN_b {ρ : Rv} (hW : WF ρ) {kn : Nat} (hk : kn ≤ 9) (p : Nat) : -36 ≤ ((rF ρ + kn : Nat) : Int) * pkI (p / 4) + (rB ρ : Int) * pkI (p % 4) ∧ ((rF ρ + kn : Nat) : Int) * pkI (p / 4) + (rB ρ : Int) * pkI (p % 4) ≤ 36 := by
  obtain ⟨-, -, -, hF, hB, -⟩ := hW
  have a1 := pkI_b (p / 4)
  have a2 := pkI_b (p % 4)
  have a3 := mul_b (a := ((rF ρ + kn : Nat) : Int)) (b := 18) (by omega) (by omega) a1.1 a1.2
  have a4 := mul_b (a := (rB ρ : Int)) (b := 18) (by omega) (by omega) a2.1 a2.2
  omega
theorem turningK {a : Nat} (ha : a < 4) : K_Crew_turning (nI a) = some (iI (sdI a)) := by
  have h : ∀ a, a < 4 → K_Crew_turning (nI a) = some (iI (sdI a)) := by decide
  exact h a ha
theorem pushingK {a : Nat} (ha : a < 4) : K_Crew_pushing (nI a) = some (iI (pkI a)) := by
  have h : ∀ a, a < 4 → K_Crew_pushing (nI a) = some (iI (pkI a)) := by decide
  exact h a ha
theorem max1K {n : Nat} (h1 : 1 ≤ n) (h : n < 2147483648) : (if (1 : Int32) < nI n then nI n else 1) = nI n := by
  have c : (1 : Int32) < nI n ↔ 1 < n := nI_lt_iff (a := 1) (by omega) h
  by_cases h2 : 1 < n
  · rw [if_pos (c.mpr h2)]
  · rw [if_neg (fun z => h2 (c.mp z))]
    have : n = 1 := by omega
    rw [this]; rfl
theorem clK {v : Int} (h1 : -36 ≤ v) (h2 : v ≤ 36) : (if (-2 : Int32) < (if iI v < 2 then iI v else 2) then (if iI v < 2 then iI v else 2) else -2) = iI (clI v) := by
  have c1 : iI v < (2 : Int32) ↔ v < 2 := iI_lt_iff (b := 2) (by omega) (by omega) (by omega) (by omega)
  have e2 : (-2 : Int32) = iI (-2) := by decide
  rw [e2]
  have c2 : iI (-2) < iI v ↔ -2 < v := iI_lt_iff (by omega) (by omega) (by omega) (by omega)
  unfold clI
  by_cases h1 : v < 2
  · rw [if_pos (c1.mpr h1)]
    by_cases h2 : -2 < v
    · rw [if_pos (c2.mpr h2), if_neg (by omega), if_neg (by omega)]
    · rw [if_neg (fun z => h2 (c2.mp z))]
      by_cases h3 : v = -2
      · subst h3; rfl
      · rw [if_pos (by omega)]
  · rw [if_neg (fun z => h1 (c1.mp z)), if_pos (show iI (-2) < (2 : Int32) by decide), if_neg (by omega)]
    by_cases h3 : v = 2
    · subst h3; rfl
    · rw [if_pos (by omega)]; rfl
/-- Crew.take: the pairs' turns and pushes -/
theorem takeK {ρ : Rv} {h : Hp} (hW : WF ρ) (hR : RC ρ h) (N : Nat) (hN : 100 < N) {kn : Nat} (hk : kn ≤ 9) : ∃ h1, K_Crew_take N (nI kn) h = some h1 ∧ RK ρ kn h1 ∧ ∀ r, r ≠ 21 → r ≠ 22 → h1 r = h r := by
  unfold K_Crew_take
  have e1 : h 10 3 + nI kn = nI (rF ρ + kn) := by rw [hR.2.2.1, nI_add]
  rw [e1, hR.2.2.2.1, nm_s, nm_s]
  let f : Nat → Int32 × Hp := fun i => (nI i, hrow (hrow h 21 (fun j => if j < i then iI (trI ρ kn j) else h 21 j)) 22 (fun j => if j < i then iI (psI ρ kn j) else h 22 j))
  have hRi : ∀ i, RC ρ (f i).2 := fun i => RC_of (h := h) (by simp [f, hrow]) (by simp [f, hrow]) (by simp [f, hrow]) hR
  have hT := hW.2.2.2.2.2.1
  have hP := hW.2.2.2.2.2.2.1
  have e0 : ((0, h) : Int32 × Hp) = f 0 := by
    refine Prod.ext rfl ?_
    show h = hrow (hrow h 21 (fun j => if j < 0 then iI (trI ρ kn j) else h 21 j)) 22 (fun j => if j < 0 then iI (psI ρ kn j) else h 22 j)
    rw [hrow_fill0]
    exact (hrow_fill0 h 22 _).symm
  have s1 : loopN (fun z_ : Int32 × Hp => K_Crew_take_L16 N (nI (rF ρ + kn)) (nI (rB ρ)) z_.1 z_.2) N (0, h) = some (f 16).2 := by
    rw [e0]
    refine loopN_for _ f 16 (f 16).2 (fun i hi => ?_) ?_ (by omega)
    · show K_Crew_take_L16 N (nI (rF ρ + kn)) (nI (rB ρ)) (nI i) (f i).2 = _
      unfold K_Crew_take_L16
      have e2 : nI i / 4 = nI (i / 4) := nI_div (d := 4) (by omega) (by omega) (by omega)
      have e3 : rm32 (nI i) 4 = nI (i % 4) := nI_rem (d := 4) (by omega) (by omega) (by omega)
      have m1 : (if 1 < (f i).2 10 5 then (f i).2 10 5 else 1) = nI (rT ρ) := by
        rw [(hRi i).2.2.2.2.1]
        exact max1K hT.1 (by omega)
      have x1 : nI (rF ρ + kn) * iI (sdI (i / 4)) + 2 * nI (rB ρ) * iI (sdI (i % 4)) = iI (((rF ρ + kn : Nat) : Int) * sdI (i / 4) + 2 * (rB ρ : Int) * sdI (i % 4)) := by
        rw [nI_iI, nI_iI]
        show iI _ * iI _ + iI 2 * iI _ * iI _ = _
        rw [iI_mul, iI_mul, iI_mul, iI_add]
      have b1 := trN_b hW hk i
      have x2 : iI (((rF ρ + kn : Nat) : Int) * sdI (i / 4) + 2 * (rB ρ : Int) * sdI (i % 4)) / nI (rT ρ) = iI (trI ρ kn i) := by
        rw [nI_iI (rT ρ), iI_div (by omega) (by omega) (by omega) (by omega)]; rfl
      have y1 : nI (rF ρ + kn) * iI (pkI (i / 4)) + nI (rB ρ) * iI (pkI (i % 4)) = iI (((rF ρ + kn : Nat) : Int) * pkI (i / 4) + (rB ρ : Int) * pkI (i % 4)) := by
        rw [nI_iI, nI_iI, iI_mul, iI_mul, iI_add]
      have b2 := psN_b hW hk i
      have y2 : iI (((rF ρ + kn : Nat) : Int) * pkI (i / 4) + (rB ρ : Int) * pkI (i % 4)) / nI (rP ρ) = iI ((((rF ρ + kn : Nat) : Int) * pkI (i / 4) + (rB ρ : Int) * pkI (i % 4)).tdiv (rP ρ)) := by
        rw [nI_iI (rP ρ), iI_div (by omega) (by omega) (by omega) (by omega)]
      have n16 : ¬ (16 : Int32) ≤ nI i := fun z => by
        have z : nI 16 ≤ nI i := z
        rw [nI_le_iff (by omega) (by omega)] at z; omega
      rw [if_neg n16, if_neg n16, if_neg n16, nm_s, nm_s, e2, e3, turningK (by omega), turningK (Nat.mod_lt _ (by decide)), bd_s, bd_s, m1, dz_nI (by omega) (by omega), sA_nI hi (by omega), x1, x2, nm_s, pushingK (by omega), pushingK (Nat.mod_lt _ (by decide)), bd_s, bd_s]
      have m2 : (if 1 < (hset (f i).2 21 (nI i).toNatClampNeg (iI (trI ρ kn i))) 10 6 then (hset (f i).2 21 (nI i).toNatClampNeg (iI (trI ρ kn i))) 10 6 else 1) = nI (rP ρ) := by
        rw [hset_ne _ _ _ (by decide), (hRi i).2.2.2.2.2.1]
        exact max1K hP.1 (by omega)
      rw [m2, dz_nI (by omega) (by omega), y1, y2, nm_s, sA_nI hi (by omega), nm_s, nm_s, nI_cl (by omega)]
      have bq := tdiv_b (b := (rP ρ : Int)) b2.1 b2.2 (by omega)
      rw [clK bq.1 bq.2, nI_1]
      congr 2
      refine Prod.ext rfl ?_
      show hset (hset (f i).2 21 i (iI (trI ρ kn i))) 22 i (iI (psI ρ kn i)) = (f (i + 1)).2
      have z1 : hset (f i).2 21 i (iI (trI ρ kn i)) = hrow (hrow h 21 (fun j => if j < i + 1 then iI (trI ρ kn j) else h 21 j)) 22 (fun j => if j < i then iI (psI ρ kn j) else h 22 j) := by
        rw [← hset_fill h 21 (fun j => iI (trI ρ kn j)) (h 21) i]
        funext q
        by_cases hq : q = 22
        · subst hq
          rw [hset_ne _ _ _ (by decide), hrow_at]
          simp only [f, hrow_at]
        · by_cases hq1 : q = 21
          · subst hq1
            rw [hset_at, hrow_ne _ _ (by decide), hset_at]
            simp only [f, hrow_ne _ _ (by decide : (21 : Nat) ≠ 22)]
          · rw [hset_ne _ _ _ hq1, hrow_ne _ _ hq, hset_ne _ _ _ hq1]
            simp only [f, hrow_ne _ _ hq]
      rw [z1]
      exact hset_fill _ 22 (fun j => iI (psI ρ kn j)) (h 22) i
    · show K_Crew_take_L16 N (nI (rF ρ + kn)) (nI (rB ρ)) (nI 16) (f 16).2 = _
      unfold K_Crew_take_L16
      rw [if_pos (show (16 : Int32) ≤ nI 16 from by decide)]
  rw [s1, bd_s]
  refine ⟨_, rfl, fun p hp => ⟨?_, ?_⟩, fun r h1 h2 => ?_⟩
  · show (f 16).2 21 p = _
    simp only [f, hrow_ne _ _ (by decide : (21 : Nat) ≠ 22), hrow_at, hp, if_true]
  · show (f 16).2 22 p = _
    simp only [f, hrow_at, hp, if_true]
  · show (f 16).2 r = _
    simp only [f, hrow_ne _ _ h2, hrow_ne _ _ h1]
theorem turnOfK {ρ : Rv} {h : Hp} {kn : Nat} (hK : RK ρ kn h) {p : Nat} (hp : p < 16) : K_Crew_turnOf (nI p) h = some (iI (trI ρ kn p)) := by
  unfold K_Crew_turnOf
  rw [if_neg (nI_not_neg (by omega)), if_neg (fun z => by
    have z : nI 16 ≤ nI p := z
    rw [nI_le_iff (by omega) (by omega)] at z; omega), gA_nI hp (by omega), (hK p hp).1]
theorem pushOfK {ρ : Rv} {h : Hp} {kn : Nat} (hK : RK ρ kn h) {p : Nat} (hp : p < 16) : K_Crew_pushOf (nI p) h = some (iI (psI ρ kn p)) := by
  unfold K_Crew_pushOf
  rw [if_neg (nI_not_neg (by omega)), if_neg (fun z => by
    have z : nI 16 ≤ nI p := z
    rw [nI_le_iff (by omega) (by omega)] at z; omega), gA_nI hp (by omega), (hK p hp).2]
/-- Waters.calm at any turn and any push of two -/
theorem wcalmK {ρ : Rv} {h : Hp} (hL : RL ρ h) {u : Nat} (hu : u < 384) {t q : Int} (ht : -1000 ≤ t ∧ t ≤ 1000) (hq : -2 ≤ q ∧ q ≤ 2) : K_Waters_calm (nI u) (iI t) (iI q) h = some (nI (8 * pu ρ (u / 8) (dd (u % 8) t) q + dd (u % 8) t)) := by
  unfold K_Waters_calm
  have e1 : (nI u + iI t) &&& 7 = nI (dd (u % 8) t) := by
    rw [nI_iI, iI_add, and7_iI]
    congr 1
    unfold dd
    show ((((u : Nat) : Int) + t) % 8).toNat = ((((u % 8 : Nat) : Int) + t) % 8).toNat
    omega
  have hd := dd_lt (u % 8) t
  have e2 : nI u / 8 * 8 + nI (dd (u % 8) t) = nI (u / 8 * 8 + dd (u % 8) t) := by
    rw [show nI u / 8 = nI (u / 8) from nI_div (d := 8) (by omega) (by omega) (by omega)]
    show nI (u / 8) * nI 8 + _ = _
    rw [nI_mul, nI_add]
  have e3 : nI (u / 8 * 8 + dd (u % 8) t) * 5 + iI q + 2 = nI (((u / 8 * 8 + dd (u % 8) t) * 5 : Nat) + q + 2 : Int).toNat := by
    show nI _ * nI 5 + iI q + iI 2 = _
    rw [nI_mul, nI_iI, iI_add, iI_add, nI_iI]
    congr 1
    omega
  rw [e1, nm_s, e2, nm_s, e3, nm_s]
  generalize hd' : dd (u % 8) t = d at *
  generalize hv : (((u / 8 * 8 + d) * 5 : Nat) + q + 2 : Int).toNat = v
  have hv1 : v < 1920 := by omega
  have hv5 : v / 5 = u / 8 * 8 + d := by omega
  have hv6 : (v % 5 : Nat) - 2 = q := by omega
  rw [if_neg (nI_not_neg (by omega)), if_neg (fun z => by
    have z : nI 1920 ≤ nI v := z
    rw [nI_le_iff (by omega) (by omega)] at z; omega), gA_nI hv1 (by omega), hL.2.1 v hv1, hv5, hv6]
  have e7 : (u / 8 * 8 + d) / 8 = u / 8 := by omega
  have e8 : (u / 8 * 8 + d) % 8 = d := by omega
  rw [e7, e8]
  have hp := pu_lt (ρ := ρ) (s := u / 8) (d := d) (q := q) (by omega)
  congr 1
  show nI _ * nI 8 + _ = _
  rw [nI_mul, nI_add]
  congr 1
  omega
theorem wgustK {ρ : Rv} {h : Hp} (hL : RL ρ h) {u : Nat} (hu : u < 384) : K_Waters_gust (nI u) h = some (nI (gus ρ u)) := by
  unfold K_Waters_gust
  rw [show nI u / 8 = nI (u / 8) from nI_div (d := 8) (by omega) (by omega) (by omega), nm_s, if_neg (nI_not_neg (by omega)), if_neg (fun z => by
    have z : nI 48 ≤ nI (u / 8) := z
    rw [nI_le_iff (by omega) (by omega)] at z; omega), gA_nI (by omega) (by omega), hL.2.2 _ (by omega), show rm32 (nI u) 8 = nI (u % 8) from nI_rem (d := 8) (by omega) (by omega) (by omega)]
  unfold gus
  congr 1
  show nI _ * nI 8 + _ = _
  rw [nI_mul, nI_add, Nat.mul_comm]
theorem wafterK {ρ : Rv} {h : Hp} (hW : WF ρ) (hL : RL ρ h) {kn : Nat} (hk : kn ≤ 9) {mm p : Nat} (hm : mm / 384 < tmv ρ) : K_Waters_after (nI mm) (iI (trI ρ kn p)) (iI (psI ρ kn p)) h = some (nI (aft ρ kn mm p)) := by
  unfold K_Waters_after
  have ht := tmv_b hW
  have b1 := trI_b hW hk p
  have b2 := psI_b ρ kn p
  have e1 : nI mm / 384 + 1 = nI (mm / 384 + 1) := by
    rw [show nI mm / 384 = nI (mm / 384) from nI_div (d := 384) (by omega) (by omega) (by omega), nI_1]
  have e2 : rm32 (nI mm) 384 = nI (mm % 384) := nI_rem (d := 384) (by omega) (by omega) (by omega)
  have hu : mm % 384 < 384 := Nat.mod_lt _ (by decide)
  rw [e1, nm_s, e2, wcalmK hL hu (by omega) b2, bd_s, hL.1]
  have hc := cal_lt (ρ := ρ) (kn := kn) (p := p) hu
  unfold cal at hc
  unfold aft cal
  by_cases h1 : mm / 384 + 1 < tmv ρ
  · rw [if_neg (fun z => by rw [nI_le_iff (by omega) (by omega)] at z; omega), if_pos h1]
    congr 1
    show nI _ * nI 384 + _ = _
    rw [nI_mul, nI_add, Nat.mul_comm]
  · rw [if_pos ((nI_le_iff (by omega) (by omega)).mpr (by omega)), if_neg h1, wgustK hL hc, bd_s]
theorem afterK {ρ : Rv} {h : Hp} (hW : WF ρ) (hL : RL ρ h) {kn : Nat} (hk : kn ≤ 9) (hK : RK ρ kn h) {mm p : Nat} (hm : mm / 384 < tmv ρ) (hp : p < 16) : K_Crew_after (nI mm) (nI p) h = some (nI (aft ρ kn mm p)) := by
  unfold K_Crew_after
  rw [turnOfK hK hp, bd_s, pushOfK hK hp, bd_s, wafterK hW hL hk hm, bd_s]
theorem calmK {ρ : Rv} {h : Hp} (hW : WF ρ) (hL : RL ρ h) {kn : Nat} (hk : kn ≤ 9) (hK : RK ρ kn h) {u p : Nat} (hu : u < 384) (hp : p < 16) : K_Crew_calm (nI u) (nI p) h = some (nI (cal ρ kn u p)) := by
  unfold K_Crew_calm
  have b1 := trI_b hW hk p
  rw [turnOfK hK hp, bd_s, pushOfK hK hp, bd_s, wcalmK hL hu (by omega) (psI_b ρ kn p), bd_s]
  rfl

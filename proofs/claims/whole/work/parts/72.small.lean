/-! the small ops -/
theorem MO_fault_ok (N : Nat) : MO_fault N Inv := by
  intro k b0 b1 h hk H
  obtain ⟨a, h1, hC, hM, h4, h5⟩ := H
  refine ⟨sF a, ?_, ?_, Inv_0 ⟨a, h1, hC, hM, h4, h5⟩⟩
  · exact congrArg some hC.2.1
  · exact congrArg some hM.2.2.2.1
theorem MO_square_ok (N : Nat) : MO_square N Inv := by
  intro k b0 b1 h x y hk H
  obtain ⟨a, h1, hC, hM, h4, h5⟩ := H
  have hW := h1.1
  have hR := hC.2.2.1.1
  have hS := hM.1
  unfold K_C_square K_M_square
  rw [hasX hW hR, isSquareX hW hS, bd_s, bd_s]
  by_cases c : 0 ≤ x.toInt ∧ x.toInt < rW (sR a) ∧ 0 ≤ y.toInt ∧ y.toInt < rH (sR a)
  · obtain ⟨s, s1, s2, s3, s4, s5⟩ := sq_of hW c
    have l := inR_lt hW s1
    have b := WH_b hW
    have cm := cM_b hW s1
    rw [if_pos c, if_neg (by decide), if_neg (by decide), gA_lit (x := 0) (i := 0) rfl (by omega) (by omega), hS.1, s2, s3, kindK hR l, bd_s, gA_nI (by omega) (by omega), hS.2.2.2.2.2.2.2.2.2.2.1 s s1]
    exact ⟨_, rfl, rfl, Inv_0 ⟨a, h1, hC, hM, h4, h5⟩⟩
  · rw [if_neg c, if_pos rfl, if_pos rfl]
    exact ⟨_, rfl, rfl, Inv_0 ⟨a, h1, hC, hM, h4, h5⟩⟩
theorem MO_habit_ok (N : Nat) : MO_habit N Inv := by
  intro k b0 b1 h x y hk H
  obtain ⟨a, h1, hC, hM, h4, h5⟩ := H
  have hW := h1.1
  have hR := hC.2.2.1.1
  have hS := hM.1
  have z : ∀ r, K_C_habit x y h = some r → K_M_habit x y h = some r → ∃ r, K_C_habit x y h = some r ∧ K_M_habit x y h = some r ∧ Inv (k + 1) b0 b1 h := fun r z1 z2 => ⟨r, z1, z2, Inv_0 ⟨a, h1, hC, hM, h4, h5⟩⟩
  unfold K_C_habit K_M_habit K_River_habitOf at z ⊢
  rw [outX (x := x) (a := 0) (b := 1) (lo := 0) (hi := 1) (by decide) (by decide) (by decide) (by decide) (by decide) (by decide), inX (x := x) (a := 0) (b := 1) (lo := 0) (hi := 1) (by decide) (by decide) (by decide) (by decide) (by decide) (by decide), outX (x := y) (a := 0) (b := 3) (lo := 0) (hi := 3) (by decide) (by decide) (by decide) (by decide) (by decide) (by decide), inX (x := y) (a := 0) (b := 3) (lo := 0) (hi := 3) (by decide) (by decide) (by decide) (by decide) (by decide) (by decide), bd_s, bd_s, bd_s, bd_s] at z
  by_cases c : 0 ≤ x.toInt ∧ x.toInt ≤ 1
  · by_cases d : 0 ≤ y.toInt ∧ y.toInt ≤ 3
    · obtain ⟨i, hi, ei⟩ := nat_of (x := x) (n := 1) c
      obtain ⟨j, hj, ej⟩ := nat_of (x := y) (n := 3) d
      have e : (4 * x) + y = nI (4 * i + j) := by rw [ei, ej, show (4 : Int32) = nI 4 from rfl, nI_mul, nI_add]
      have k8 : (8 : Int32) ≤ nI (4 * i + j) ↔ 8 ≤ 4 * i + j := nI_le_iff (a := 8) (by omega) (by omega)
      rw [if_pos c, if_pos c, if_pos d, if_pos d, e] at z
      rw [outX (x := x) (a := 0) (b := 1) (lo := 0) (hi := 1) (by decide) (by decide) (by decide) (by decide) (by decide) (by decide), inX (x := x) (a := 0) (b := 1) (lo := 0) (hi := 1) (by decide) (by decide) (by decide) (by decide) (by decide) (by decide), outX (x := y) (a := 0) (b := 3) (lo := 0) (hi := 3) (by decide) (by decide) (by decide) (by decide) (by decide) (by decide), inX (x := y) (a := 0) (b := 3) (lo := 0) (hi := 3) (by decide) (by decide) (by decide) (by decide) (by decide) (by decide), bd_s, bd_s, bd_s, bd_s, if_pos c, if_pos c, if_pos d, if_pos d, e]
      refine z (nI (hbt (sR a) (4 * i + j))) ?_ ?_
      · rw [if_pos rfl, if_pos rfl, nm_s, if_neg (nI_not_neg (by omega)), if_neg (fun z => absurd (k8.mp z) (by omega)), gA_nI (by omega) (by omega), bd_s, hR.2.2.2.2.2.2.2.2.2.2.2.2 _ (by omega)]
      · rw [if_neg (by decide), if_neg (by decide), gA_nI (by omega) (by omega), hS.2.2.2.2.2.2.2.2.2.2.2 _ (by omega)]
    · exact ⟨-1000000002, by rw [outX (x := x) (a := 0) (b := 1) (lo := 0) (hi := 1) (by decide) (by decide) (by decide) (by decide) (by decide) (by decide), outX (x := y) (a := 0) (b := 3) (lo := 0) (hi := 3) (by decide) (by decide) (by decide) (by decide) (by decide) (by decide), bd_s, bd_s, if_pos c, if_neg d, if_pos rfl, if_neg (by decide)], by rw [inX (x := x) (a := 0) (b := 1) (lo := 0) (hi := 1) (by decide) (by decide) (by decide) (by decide) (by decide) (by decide), inX (x := y) (a := 0) (b := 3) (lo := 0) (hi := 3) (by decide) (by decide) (by decide) (by decide) (by decide) (by decide), bd_s, bd_s, if_pos c, if_neg d, if_neg (by decide), if_pos rfl], Inv_0 ⟨a, h1, hC, hM, h4, h5⟩⟩
  · exact ⟨-1000000002, by rw [outX (x := x) (a := 0) (b := 1) (lo := 0) (hi := 1) (by decide) (by decide) (by decide) (by decide) (by decide) (by decide), bd_s, if_neg c, if_neg (by decide)], by rw [inX (x := x) (a := 0) (b := 1) (lo := 0) (hi := 1) (by decide) (by decide) (by decide) (by decide) (by decide) (by decide), bd_s, if_neg c, if_pos rfl], Inv_0 ⟨a, h1, hC, hM, h4, h5⟩⟩
theorem getD_snoc {α : Type} (l : List α) (c d : α) (j : Nat) (h : j < l.length + 1) : (l ++ [c]).getD j d = if j = l.length then c else l.getD j d := by
  by_cases e : j = l.length
  · subst e; rw [if_pos rfl]; simp [List.getD]
  · rw [if_neg e]
    have : j < l.length := by omega
    simp [List.getD, List.getElem?_append, this]
def aT (a : St) (t : List Nat) : St := (sR a, t, a.2.2)
def aB (a : St) (b : Nat × Nat × Nat) : St := (sR a, sT a, sF a, b, a.2.2.2.2)
def aL (a : St) (l : List Nat) : St := (sR a, sT a, sF a, sB a, l, a.2.2.2.2.2)
def aN (a : St) (l : List Nat) : St := (sR a, sT a, sF a, sB a, sL a, l, a.2.2.2.2.2.2)
def aE (a : St) (l : List (Nat × Nat)) : St := (sR a, sT a, sF a, sB a, sL a, sN a, l, a.2.2.2.2.2.2.2)
theorem eqh {h : Hp} {X : List Nat} {h' : Hp} (e : ∀ r, r ∉ X → h' r = h r) : ∀ L : List Nat, ∀ r ∈ L, r ∉ X → h' r = h r := fun _ r _ z => e r z
theorem ne_of_nm {r q : Nat} {X : List Nat} (z : r ∉ X) (h : q ∈ X) : r ≠ q := fun e => z (e ▸ h)
theorem ne_of_m {r q : Nat} {L : List Nat} (z : r ∈ L) (h : q ∉ L) : r ≠ q := fun e => h (e ▸ z)
theorem feedC {k : Nat} {a : St} {h : Hp} (hk : k < 64) (hv : VS k a) (hC : IC k a h) {c : Nat} (hc : c < 256) : ∃ h1, K_C_feed (nI c) h = some (nI ((sT a).length + 1), h1) ∧ IC (k + 1) (aT a (sT a ++ [c])) h1 ∧ h1 31 = h 31 ∧ h1 32 = h 32 := by
  have l := hv.2.1.1
  have e1 := hC.1.1
  have hx : (nI c).toInt = (c : Int) := by rw [nI_iI, iI_toInt (by omega) (by omega)]
  have hx0 : 0 ≤ (nI c).toInt ∧ (nI c).toInt ≤ 255 := by omega
  have k2 : nI (sT a).length < (250 : Int32) ↔ (sT a).length < 250 := nI_lt_iff (b := 250) (by omega) (by omega)
  have e0 : (hset h 2 (sT a).length (nI c)) 0 1 = nI (sT a).length := by rw [hset_ne _ _ _ (by decide)]; exact e1
  refine ⟨hset (hset h 2 (sT a).length (nI c)) 0 1 (nI ((sT a).length + 1)), ?_, ?_, ?_, ?_⟩
  · unfold K_C_feed
    rw [outX (a := 0) (b := 255) (lo := 0) (hi := 255) (by decide) (by decide) (by decide) (by decide) (by decide) (by decide), bd_s, if_pos hx0, if_pos rfl, e1, if_neg (nI_not_neg (by omega)), if_pos (k2.mpr (by omega)), sA_nI (by omega) (by omega), nI_cl (by omega), nm_s, nm_s, e0, show (1 : Int32) = nI 1 from rfl, nI_add, hset_at, upd_at]
  · refine IC_up (Nat.le_succ k) hC [0, 2] (eqh (fun r z => ?_) clR) (c1 := .inr ⟨?_, fun j hj => ?_⟩) (c2 := .inr ?_)
    · rw [hset_ne _ _ _ (by intro q; subst q; exact z (by decide)), hset_ne _ _ _ (by intro q; subst q; exact z (by decide))]
    · rw [hset_at, upd_at]
      show _ = nI (sT a ++ [c]).length
      rw [List.length_append]
      rfl
    · have hj' : j < (sT a).length + 1 := by
        have : (sT (aT a (sT a ++ [c]))).length = (sT a).length + 1 := by show (sT a ++ [c]).length = _; rw [List.length_append]; rfl
        omega
      show _ = nI ((sT a ++ [c]).getD j 0)
      rw [getD_snoc _ _ _ _ hj', hset_ne _ _ _ (by decide), hset_at]
      by_cases q : j = (sT a).length
      · rw [if_pos q, q, upd_at]
      · rw [if_neg q, upd_ne _ _ q]
        exact hC.1.2 j (by omega)
    · show _ = sF a
      rw [hset_at, upd_ne _ _ (by decide), hset_ne _ _ _ (by decide)]
      exact hC.2.1
  · rw [hset_ne _ _ _ (by decide), hset_ne _ _ _ (by decide)]
  · rw [hset_ne _ _ _ (by decide), hset_ne _ _ _ (by decide)]
theorem feedM {k : Nat} {a : St} {h : Hp} (hk : k < 64) (hv : VS k a) (hM : IM a h) {c : Nat} (hc : c < 256) : ∃ h1, K_M_feed (nI c) h = some (nI ((sT a).length + 1), h1) ∧ IM (aT a (sT a ++ [c])) h1 := by
  have l := hv.2.1.1
  have e1 := hM.2.2.1.1
  have hx : (nI c).toInt = (c : Int) := by rw [nI_iI, iI_toInt (by omega) (by omega)]
  have hx0 : 0 ≤ (nI c).toInt ∧ (nI c).toInt ≤ 255 := by omega
  have k2 : nI (sT a).length = (250 : Int32) ↔ (sT a).length = 250 := nI_eq_iff (b := 250) (by omega) (by omega)
  have e0 : (hset h 106 (sT a).length (nI c)) 100 7 = nI (sT a).length := by rw [hset_ne _ _ _ (by decide)]; exact e1
  refine ⟨hset (hset h 106 (sT a).length (nI c)) 100 7 (nI ((sT a).length + 1)), ?_, ?_⟩
  · unfold K_M_feed
    rw [inX (a := 0) (b := 255) (lo := 0) (hi := 255) (by decide) (by decide) (by decide) (by decide) (by decide) (by decide), bd_s, if_pos hx0, if_neg (by decide), e1, if_neg (fun z => by have := k2.mp z; omega), sA_nI (by omega) (by omega), nI_cl (by omega), nm_s, nm_s, e0, show (1 : Int32) = nI 1 from rfl, nI_add, hset_at, upd_at]
  · refine IM_up hM [106] [7] (fun r hr z => ?_) (fun f hf z => ?_) (c2 := ?_) (c3 := .inr ⟨?_, fun j hj => ?_⟩)
    · rw [hset_ne _ _ _ (ne_of_m hr (by decide)), hset_ne _ _ _ (ne_of_nm z (by decide))]
    · rw [hset_at, upd_ne _ _ (by intro q; subst q; exact z (by decide)), hset_ne _ _ _ (by decide)]
    · rw [hset_at, upd_ne _ _ (by decide), hset_ne _ _ _ (by decide)]
      exact hM.2.1
    · rw [hset_at, upd_at]
      show _ = nI (sT a ++ [c]).length
      rw [List.length_append]
      rfl
    · have hj' : j < (sT a).length + 1 := by
        have : (sT (aT a (sT a ++ [c]))).length = (sT a).length + 1 := by show (sT a ++ [c]).length = _; rw [List.length_append]; rfl
        omega
      show _ = nI ((sT a ++ [c]).getD j 0)
      rw [getD_snoc _ _ _ _ hj', hset_ne _ _ _ (by decide), hset_at]
      by_cases q : j = (sT a).length
      · rw [if_pos q, q, upd_at]
      · rw [if_neg q, upd_ne _ _ q]
        exact hM.2.2.1.2 j (by omega)
theorem MO_feed_ok (N : Nat) : MO_feed N Inv := by
  intro k b0 b1 h x hk H
  by_cases c : 0 ≤ x.toInt ∧ x.toInt ≤ 255
  · obtain ⟨a, hv, hC, hM, h4, h5⟩ := H
    obtain ⟨j, hj, ej⟩ := nat_of (x := x) (n := 255) c
    subst ej
    obtain ⟨h1, z1, i1, i2, i3⟩ := feedC hk hv hC (c := j) (by omega)
    obtain ⟨h2, z2, i4⟩ := feedM hk hv (IM_C (h1 := h1) hM) (c := j) (by omega)
    have hv' : VS (k + 1) (aT a (sT a ++ [j])) := by
      have v := VS_mono (Nat.le_succ k) hv
      refine ⟨v.1, ⟨?_, ?_⟩, v.2.2⟩
      · have l := hv.2.1.1
        show (sT a ++ [j]).length ≤ k + 1
        rw [List.length_append]
        show (sT a).length + 1 ≤ k + 1
        omega
      · intro q hq
        rcases List.mem_append.mp hq with z | z
        · exact hv.2.1.2 q z
        · rw [List.mem_singleton.mp z]; omega
    exact ⟨_, h1, h2, z1, z2, op_CM hv' i1 i2 i3 i4 h4 h5⟩
  · refine ⟨-1000000002, h, mx lC h h, ?_, ?_, op_no H⟩
    · unfold K_C_feed
      rw [outX (a := 0) (b := 255) (lo := 0) (hi := 255) (by decide) (by decide) (by decide) (by decide) (by decide) (by decide), bd_s, if_neg c, if_neg (by decide)]
    · unfold K_M_feed
      rw [inX (a := 0) (b := 255) (lo := 0) (hi := 255) (by decide) (by decide) (by decide) (by decide) (by decide) (by decide), bd_s, if_neg c, if_pos rfl]

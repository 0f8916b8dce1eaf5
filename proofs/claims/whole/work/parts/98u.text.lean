/-! a clause, and the text -/
def HV (H : Nat → Bool) : Int32 := nI (hc8 (H 0) (H 1) (H 2) (H 3) (H 4) (H 5) (H 6) (H 7))
theorem hc8_b : ∀ a b c d e f g h : Bool, hc8 a b c d e f g h < 256 := by decide +kernel
theorem hc8_0 : ∀ a b c d e f g h : Bool, hc8 a b c d e f g h = 0 → a = false := by decide +kernel
def hadd (H : Nat → Bool) (k : Nat) : Nat → Bool := fun j => H j || decide (j = k)
theorem HV_S (H : Nat → Bool) : S8 (HV H) (fun j => H j = true) := ⟨H, rfl, fun _ _ => Iff.rfl⟩
theorem HV_or (H : Nat → Bool) {k : Nat} (hk : k < 8) : HV H ||| (1 <<< (nI k &&& 31)) = HV (hadd H k) := by
  unfold HV
  rw [hc_or _ _ _ _ _ _ _ _ k hk]
  rfl
theorem HV_test (H : Nat → Bool) {k : Nat} (hk : k < 8) : (HV H >>> (nI k &&& 31)) &&& 1 = if H k = true then 1 else 0 := by
  unfold HV
  rw [hc_test _ _ _ _ _ _ _ _ k hk]
  rcases (by omega : k = 0 ∨ k = 1 ∨ k = 2 ∨ k = 3 ∨ k = 4 ∨ k = 5 ∨ k = 6 ∨ k = 7) with c | c | c | c | c | c | c | c <;> subst c <;> rfl
theorem HV_le (H : Nat → Bool) : (HV H ≤ 0 ↔ HV H = 0) := by
  have := hc8_b (H 0) (H 1) (H 2) (H 3) (H 4) (H 5) (H 6) (H 7)
  unfold HV
  rw [show (0 : Int32) = nI 0 from rfl, nI_le_iff (by omega) (by omega), nI_eq_iff (by omega) (by omega)]
  omega
theorem HV_0 {H : Nat → Bool} (h : HV H = 0) : H 0 = false := by
  have b := hc8_b (H 0) (H 1) (H 2) (H 3) (H 4) (H 5) (H 6) (H 7)
  unfold HV at h
  exact hc8_0 _ _ _ _ _ _ _ _ ((nI_eq_iff (b := 0) (by omega) (by omega)).mp h)
/-- how many are not told yet -/
def mu (H : Nat → Bool) : Nat := (if H 0 = true then 0 else 1) + (if H 1 = true then 0 else 1) + (if H 2 = true then 0 else 1) + (if H 3 = true then 0 else 1) + (if H 4 = true then 0 else 1) + (if H 5 = true then 0 else 1)
theorem mu_lt {H : Nat → Bool} {k : Nat} (hk : k < 6) (h : H k = false) : mu (hadd H k) < mu H := by
  have e : ∀ j, (if hadd H k j = true then 0 else 1 : Nat) ≤ (if H j = true then 0 else 1) ∧ (j = k → (if hadd H k j = true then 0 else 1 : Nat) + 1 = (if H j = true then 0 else 1)) := fun j => by
    unfold hadd
    by_cases c : j = k
    · subst c
      rw [h]
      have : (false || decide (j = j)) = true := by rw [decide_eq_true rfl]; rfl
      rw [this]
      exact ⟨by decide, fun _ => by decide⟩
    · rw [decide_eq_false c, Bool.or_false]
      exact ⟨Nat.le_refl _, fun z => absurd z c⟩
  have e0 := e 0
  have e1 := e 1
  have e2 := e 2
  have e3 := e 3
  have e4 := e 4
  have e5 := e 5
  unfold mu
  omega
/-- nothing wrong so far -/
def TSt (tx : List Nat) (P : Int32) (p : Nat) (H : Nat → Bool) (ρ : Rv) (g f : Hp) : Prop := (cX tx 0 P (skp tx p) g ∧ mX tx P p f) ∧ (g 70 4 = HV H ∧ f 100 5 = HV H) ∧ WF ρ ∧ RC ρ g ∧ RH ρ (H 2 = true) f ∧ (H 0 = false → rW ρ = 0 ∧ ∀ j, j < 8 → H j = false) ∧ (H 0 = true → rW ρ ≠ 0)
def TFr (g f g' f' : Hp) : Prop := (∀ r, r ∉ ([70, 10, 11, 12] : List Nat) → g' r = g r) ∧ (∀ r, r ∉ ([100, 103, 104, 105] : List Nat) → f' r = f r) ∧ (∀ x, x ∉ ([5, 8, 9, 10, 11] : List Nat) → f' 100 x = f 100 x) ∧ hfM f f'
theorem TFr_trans {g f g' f' g2 f2 : Hp} (a : TFr g f g' f') (b : TFr g' f' g2 f2) : TFr g f g2 f2 := ⟨fun r hr => (b.1 r hr).trans (a.1 r hr), fun r hr => (b.2.1 r hr).trans (a.2.1 r hr), fun x hx => (b.2.2.1 x hx).trans (a.2.2.1 x hx), hfM_trans a.2.2.2 b.2.2.2⟩
theorem TFr_of {g f g' f' : Hp} (a : frK g g') (b : frR f f') : TFr g f g' f' := ⟨a.1, b.1, fun x hx => b.2.1 x (fun z => hx (List.mem_cons_of_mem _ z)), b.2.2⟩
/-- what the k-th clause reads -/
def clsK (N k : Nat) (h76 : Hp) : Option Hp := if k = 0 then K_Reader_readSquares N h76 else if k = 1 then K_Reader_readStrengths N h76 else if k = 2 then K_Reader_readBoat N h76 else if k = 3 then K_Reader_readGoal N h76 else if k = 4 then K_Reader_readWind N h76 else K_Reader_readHabits N h76
def clM (N k : Nat) (h87 : Hp) : Option Hp := if k = 0 then K_M_takeRiver N h87 else if k = 1 then M_str N h87 else if k = 2 then M_boat N h87 else if k = 3 then M_goal N h87 else if k = 4 then M_wind N h87 else K_M_takeHabits N h87
theorem clJ {tx : List Nat} (hX : okX tx) {P : Int32} {p : Nat} {g f : Hp} (h : JJ tx 0 P p g f) (N : Nat) (hN : 200 < N) {k : Nat} (hk : k < 6) {H : Nat → Bool} {ρ : Rv} (hW : WF ρ) (hR : RC ρ g) (hM : RH ρ (H 2 = true) f) (h0 : H k = false) (h1 : H 0 = false → rW ρ = 0 ∧ ∀ j, j < 8 → H j = false) (h2 : H 0 = true → rW ρ ≠ 0) (h3 : k ≠ 0 → H 0 = true) : ∃ g' f', clsK N k g = some g' ∧ clM N k f = some f' ∧ CE tx P (hadd H k 2 = true) g f g' f' := by
  have same : k ≠ 2 → (hadd H k 2 = true) = (H 2 = true) := fun z => by
    unfold hadd
    rw [decide_eq_false (fun y => z y.symm), Bool.or_false]
  unfold clsK clM
  rcases (by omega : k = 0 ∨ k = 1 ∨ k = 2 ∨ k = 3 ∨ k = 4 ∨ k = 5) with c | c | c | c | c | c <;> subst c
  · obtain ⟨w0, all⟩ := h1 h0
    have e : (H 2 = true) = False := by rw [all 2 (by decide)]; exact propext ⟨fun z => absurd z (by decide), fun z => z.elim⟩
    rw [same (by decide), e]
    rw [e] at hM
    exact rivJ hX h N hN hW w0 hR hM
  · rw [same (by decide)]
    exact strJ hX h N hN hW (h2 (h3 (by decide))) hR hM
  · have e : (hadd H 2 2 = true) = True := by
      unfold hadd
      rw [decide_eq_true rfl, Bool.or_true]
      exact propext ⟨fun _ => trivial, fun _ => rfl⟩
    rw [e]
    exact boatJ hX h N hN hW (h2 (h3 (by decide))) hR hM
  · rw [same (by decide)]
    exact goalJ hX h N hN hW (h2 (h3 (by decide))) hR hM
  · rw [same (by decide)]
    exact windJ hX h N hN hW (h2 (h3 (by decide))) hR hM
  · rw [same (by decide)]
    exact habJ hX h N hN hW (h2 (h3 (by decide))) hR hM
theorem dispC (N : Nat) {k : Nat} (hk : k < 6) (h76 : Hp) : (if nI k = 0 then (bd (K_Reader_readSquares N h76) <| fun h117 => K_Reader_readClause_J155 N h117) else ( if nI k = 1 then (bd (K_Reader_readStrengths N h76) <| fun h124 => K_Reader_readClause_J155 N h124) else ( if nI k = 2 then (bd (K_Reader_readBoat N h76) <| fun h131 => K_Reader_readClause_J155 N h131) else ( if nI k = 3 then (bd (K_Reader_readGoal N h76) <| fun h138 => K_Reader_readClause_J155 N h138) else ( if nI k = 4 then (bd (K_Reader_readWind N h76) <| fun h145 => K_Reader_readClause_J155 N h145) else (bd (K_Reader_readHabits N h76) <| fun h152 => K_Reader_readClause_J155 N h152)))))) = bd (clsK N k h76) (fun h => K_Reader_readClause_J155 N h) := by
  unfold clsK
  rcases (by omega : k = 0 ∨ k = 1 ∨ k = 2 ∨ k = 3 ∨ k = 4 ∨ k = 5) with c | c | c | c | c | c <;> subst c <;> rfl
theorem bd_id {α : Type} (x : Option α) : bd x (fun y => some y) = x := by cases x <;> rfl
theorem dispM (N : Nat) {k : Nat} (hk : k < 6) (h87 : Hp) : (if nI k = 0 then (bd (K_M_takeRiver N h87) <| fun h95 => some h95) else ( if nI k = 1 then M_str N h87 else ( if nI k = 2 then M_boat N h87 else ( if nI k = 3 then M_goal N h87 else ( if nI k = 4 then M_wind N h87 else (bd (K_M_takeHabits N h87) <| fun h267 => some h267)))))) = clM N k h87 := by
  unfold clM
  rcases (by omega : k = 0 ∨ k = 1 ∨ k = 2 ∨ k = 3 ∨ k = 4 ∨ k = 5) with c | c | c | c | c | c <;> subst c
  · exact bd_id _
  · rfl
  · rfl
  · rfl
  · rfl
  · exact bd_id _
theorem clauseJ {tx : List Nat} (hX : okX tx) {P : Int32} {p : Nat} {H : Nat → Bool} {ρ : Rv} {g f : Hp} (h : TSt tx P p H ρ g f) (N : Nat) (hN : 200 < N) (hq : skp tx p < tx.length) : ∃ g1 g2 f2, K_Reader_readClause N g = some g1 ∧ K_Reader_skipBlanks N g1 = some g2 ∧ K_M_river_L25 N f = some (.inl f2) ∧ TFr g f g2 f2 ∧ ((∃ p' H' ρ', TSt tx P p' H' ρ' g2 f2 ∧ mu H' < mu H) ∨ FE g2 f2) := by
  obtain ⟨⟨c1, c2⟩, ⟨b1, b2⟩, hW, hR, hM, h1, h2⟩ := h
  have n64 := hX.1
  have sl := skp_le c2.1.2.2.1
  obtain ⟨f1, a1, a2, a3⟩ := hereX hX c2 N hN
  have a4 : K_M_here N f1 = some (chM tx (skp tx p), f1) := by
    have e := hereM hX a3.1 N hN
    rw [skp_idem c2.1.2.2.1] at e
    rw [e, hset_id a3.1.2.1]
  have q := skp tx p
  have cge : ¬ chM tx (skp tx p) < 0 := by
    unfold chM
    rw [if_pos hq]
    exact nI_not_neg (by have := okX_get hX hq; omega)
  have r5 : f1 100 5 = HV H := (a2.2 5 (by decide)).trans b2
  -- the reference at the letter, a step on
  have m1 : mX tx P (skp tx p + 1) (hset f1 100 8 (nI (skp tx p + 1))) := ⟨mLx_at a3.1 hq, by rw [hset_at, upd_ne _ _ (by decide)]; exact a3.2.1, by rw [hset_at, upd_ne _ _ (by decide)]; exact a3.2.2⟩
  have fr1 : frM f (hset f1 100 8 (nI (skp tx p + 1))) := frM_set a2 (by decide) _
  have r5b : (hset f1 100 8 (nI (skp tx p + 1))) 100 5 = HV H := by rw [hset_at, upd_ne _ _ (by decide)]; exact r5
  have kM : K_M_river_L25 N f = bd (K_M_takeClause N f1) (fun h40 => M_tail N h40) := by
    unfold K_M_river_L25 M_tail
    rw [if_pos c2.2.1, a1, bd2_s, if_neg cge]
  have kT : K_M_takeClause N f1 = if lt tx 0 (skp tx p) = 0 then ( K_M_takeClause_J44 N (lt tx 0 (skp tx p)) (nI (skp tx p)) 1 (hset f1 100 8 (nI (skp tx p + 1)))) else ( if lt tx 0 (skp tx p) ≤ 0 then ( K_M_takeClause_J44 N (lt tx 0 (skp tx p)) (nI (skp tx p)) 0 (hset f1 100 8 (nI (skp tx p + 1)))) else ( if HV H ≤ 0 then ( K_M_takeClause_J44 N (lt tx 0 (skp tx p)) (nI (skp tx p)) 0 (hset f1 100 8 (nI (skp tx p + 1)))) else ( K_M_takeClause_J44 N (lt tx 0 (skp tx p)) (nI (skp tx p)) 1 (hset f1 100 8 (nI (skp tx p + 1)))))) := by
    unfold K_M_takeClause K_M_takeClause_J39 K_M_takeClause_J43
    rw [a4, bd2_s, wordH hX, bd_s, a3.1.2.1, nm_s, show nI (skp tx p) + 1 = nI (skp tx p + 1) from nI_add _ 1, nm_s, r5b]
  have kC : K_Reader_readClause N g = if lt tx 0 (skp tx p) < 0 then ( K_Reader_readClause_J26 N g) else ( if HV H = 0 then ( if lt tx 0 (skp tx p) = 0 then ( K_Reader_readClause_J36 N (lt tx 0 (skp tx p)) g) else ( K_Reader_readClause_J26 N g)) else ( K_Reader_readClause_J36 N (lt tx 0 (skp tx p)) g)) := by
    unfold K_Reader_readClause
    rw [letterC hX c1.2.1, bd_s, show idxK 0 (Int32.toUInt32 (nI (chC tx (skp tx p))) % 65536).toInt32 = lt tx 0 (skp tx p) from rfl, b1]
    rfl
  -- a fault at the letter
  have bad : ∀ n, 1 ≤ n → n ≤ 4 → ∃ g1 g2 f3 f2, (bd (K_Reader_fail (nI n) (g 70 3) g) fun h32 => some h32) = some g1 ∧ K_Reader_skipBlanks N g1 = some g2 ∧ K_M_want 0 (nI n) (nI (skp tx p)) (hset f1 100 8 (nI (skp tx p + 1))) = some (0, f3) ∧ M_tail N f3 = some (.inl f2) ∧ TFr g f g2 f2 ∧ FE g2 f2 := by
    intro n n1 n4
    obtain ⟨g1, z1, z2, z3, z4, z5⟩ := failX c1 (n := n) (q := skp tx p) ⟨n1, n4⟩
    have e : ffl 0 P n (skp tx p) = (n, nI (skp tx p)) := by unfold ffl; rw [if_pos rfl, if_neg (by omega)]
    rw [e] at z3
    have sk := skipC hX z3.2.1 N hN
    have z6 := cX_at (q := skp tx (skp tx p)) z3 (skp_le sl.2).2
    obtain ⟨f3, w1, w2, w3, w4⟩ := wantX m1 false (n := n) ⟨n1, n4⟩ (nI (skp tx p))
    have w1 : K_M_want 0 (nI n) (nI (skp tx p)) (hset f1 100 8 (nI (skp tx p + 1))) = some (0, f3) := w1
    obtain ⟨w5, w6⟩ := w4 rfl
    refine ⟨g1, _, f3, f3, by rw [c1.2.1.2.1, z1, bd_s], sk, w1, ?_, TFr_of (frK_N (frN_set z2 (by decide) _)) (frR_M (frM_trans fr1 w2)), n, nI (skp tx p), n1, n4, z6.2.2.1, z6.2.2.2, w5, w6⟩
    unfold M_tail
    rw [w5, if_neg (show ¬ nI n = 0 from fun z => by have := (nI_eq_iff (b := 0) (by omega) (by omega)).mp z; omega)]
  have bad1 : (K_Reader_readClause N g = K_Reader_readClause_J26 N g) → (K_M_takeClause N f1 = K_M_takeClause_J44 N (lt tx 0 (skp tx p)) (nI (skp tx p)) 0 (hset f1 100 8 (nI (skp tx p + 1)))) → ∃ g1 g2 f2, K_Reader_readClause N g = some g1 ∧ K_Reader_skipBlanks N g1 = some g2 ∧ K_M_river_L25 N f = some (.inl f2) ∧ TFr g f g2 f2 ∧ ((∃ p' H' ρ', TSt tx P p' H' ρ' g2 f2 ∧ mu H' < mu H) ∨ FE g2 f2) := by
    intro e1 e2
    obtain ⟨g1, g2, f3, f2, z1, z2, z3, z4, z5, z6⟩ := bad 1 (by decide) (by decide)
    have z3 : K_M_want 0 1 (nI (skp tx p)) (hset f1 100 8 (nI (skp tx p + 1))) = some (0, f3) := z3
    refine ⟨g1, g2, f2, ?_, z2, ?_, z5, .inr z6⟩
    · rw [e1]
      unfold K_Reader_readClause_J26
      exact z1
    · rw [kM, e2]
      unfold K_M_takeClause_J44
      rw [z3, bd2_s, if_pos rfl, bd_s]
      exact z4
  rcases lt_or hX (i := 0) (by decide) (skp tx p) with e | ⟨e, bk⟩
  · refine bad1 ?_ ?_
    · rw [kC, e, if_pos (by decide)]
    · rw [kT, e, if_neg (by decide), if_pos (by decide)]
  · have bk : kk tx 0 (skp tx p) ≤ 5 := bk
    generalize kk tx 0 (skp tx p) = k at e bk
    have kn : ¬ nI k < 0 := nI_not_neg (by omega)
    have k0 : nI k = 0 ↔ k = 0 := nI_eq_iff (b := 0) (by omega) (by omega)
    have kle : nI k ≤ 0 ↔ k = 0 := (nI_le_iff (b := 0) (by omega) (by omega)).trans (by omega)
    have h28 := HV_le H
    by_cases cb : HV H = 0 ∧ k ≠ 0
    · refine bad1 ?_ ?_
      · rw [kC, e, if_neg kn, if_pos cb.1, if_neg (fun z => cb.2 (k0.mp z))]
      · rw [kT, e, if_neg (fun z => cb.2 (k0.mp z)), if_neg (fun z => cb.2 (kle.mp z)), if_pos (h28.mpr cb.1)]
    · have e1 : K_Reader_readClause N g = K_Reader_readClause_J36 N (nI k) g := by
        rw [kC, e, if_neg kn]
        by_cases z : HV H = 0
        · rw [if_pos z, if_pos (k0.mpr (Decidable.not_not.mp (fun y => cb ⟨z, y⟩)))]
        · rw [if_neg z]
      have e2 : K_M_takeClause N f1 = K_M_takeClause_J44 N (nI k) (nI (skp tx p)) 1 (hset f1 100 8 (nI (skp tx p + 1))) := by
        rw [kT, e]
        by_cases z : k = 0
        · rw [if_pos (k0.mpr z)]
        · rw [if_neg (fun y => z (k0.mp y)), if_neg (fun y => z (kle.mp y)), if_neg (fun y => cb ⟨h28.mp y, z⟩)]
      have e3 : K_M_takeClause N f1 = K_M_takeClause_J69 N (nI k) (nI (skp tx p)) (if H k = true then 0 else 1) (hset f1 100 8 (nI (skp tx p + 1))) := by
        rw [e2]
        unfold K_M_takeClause_J44 K_M_has
        rw [want1 m1.2.1, bd2_s, if_neg (by decide), r5b, HV_test H (by omega)]
        by_cases z : H k = true
        · rw [if_pos z, if_pos rfl, bd_s, if_neg (by decide), if_pos z]
        · rw [if_neg z, if_neg (by decide), bd_s, if_pos rfl, if_neg z]
      by_cases ck : H k = true
      · obtain ⟨g1, g2, f3, f2, z1, z2, z3, z4, z5, z6⟩ := bad 3 (by decide) (by decide)
        have z3 : K_M_want 0 3 (nI (skp tx p)) (hset f1 100 8 (nI (skp tx p + 1))) = some (0, f3) := z3
        refine ⟨g1, g2, f2, ?_, z2, ?_, z5, .inr z6⟩
        · rw [e1]
          unfold K_Reader_readClause_J36
          rw [b1, HV_test H (by omega), if_pos ck, if_neg (by decide)]
          exact z1
        · rw [kM, e3, if_pos ck]
          unfold K_M_takeClause_J69
          rw [z3, bd2_s, if_pos rfl, bd_s]
          exact z4
      · have hk0 : H k = false := by
          cases z : H k
          · rfl
          · exact absurd z ck
        -- both take it
        have J1 : JJ tx 0 P (skp tx p + 1) (hset (hset g 70 4 (HV (hadd H k))) 70 3 (nI (skp tx p + 1))) (hset (hset f1 100 8 (nI (skp tx p + 1))) 100 5 (HV (hadd H k))) := by
          have x1 := cX_at c1 hq
          refine ⟨Nat.zero_le _, ⟨?_, by rw [hset_at, upd_at], hq, fun j hj => ?_⟩, ?_, ?_, ?_, ?_, fun _ => ⟨?_, ?_, hq, fun j hj => ?_⟩⟩
          · rw [hset_at, upd_ne _ _ (by decide), hset_at, upd_ne _ _ (by decide)]; exact c1.2.1.1
          · rw [hset_ne _ _ _ (by decide), hset_ne _ _ _ (by decide)]; exact c1.2.1.2.2.2 j hj
          · rw [hset_at, upd_ne _ _ (by decide), hset_at, upd_ne _ _ (by decide)]; exact c1.2.2.1
          · rw [hset_at, upd_ne _ _ (by decide), hset_at, upd_ne _ _ (by decide)]; exact c1.2.2.2
          · rw [hset_at, upd_ne _ _ (by decide)]; exact m1.2.1
          · rw [hset_at, upd_ne _ _ (by decide)]; exact m1.2.2
          · rw [hset_at, upd_ne _ _ (by decide)]; exact m1.1.1
          · rw [hset_at, upd_ne _ _ (by decide)]; exact m1.1.2.1
          · rw [hset_ne _ _ _ (by decide)]; exact m1.1.2.2.2 j hj
        have R1 : RC ρ (hset (hset g 70 4 (HV (hadd H k))) 70 3 (nI (skp tx p + 1))) := by
          unfold RC at hR ⊢
          rw [hset_ne _ _ _ (show (10 : Nat) ≠ 70 by decide), hset_ne _ _ _ (show (10 : Nat) ≠ 70 by decide), hset_ne _ _ _ (show (11 : Nat) ≠ 70 by decide), hset_ne _ _ _ (show (11 : Nat) ≠ 70 by decide), hset_ne _ _ _ (show (12 : Nat) ≠ 70 by decide), hset_ne _ _ _ (show (12 : Nat) ≠ 70 by decide)]
          exact hR
        have M1 : RH ρ (H 2 = true) (hset (hset f1 100 8 (nI (skp tx p + 1))) 100 5 (HV (hadd H k))) := RH_of (hset_ne _ _ _ (by decide)) (hset_ne _ _ _ (by decide)) (hset_ne _ _ _ (by decide)) (RH_M fr1 hM)
        have h3 : k ≠ 0 → H 0 = true := fun z => by
          cases y : H 0
          · exfalso
            have al := (h1 y).2
            apply cb
            refine ⟨?_, z⟩
            unfold HV
            rw [al 0 (by decide), al 1 (by decide), al 2 (by decide), al 3 (by decide), al 4 (by decide), al 5 (by decide), al 6 (by decide), al 7 (by decide)]
            rfl
          · rfl
        obtain ⟨g3, f3, y1, y2, y3, y4, F', P', p', y5, y6⟩ := clJ hX J1 N hN (by omega) hW R1 M1 hk0 h1 h2 h3
        obtain ⟨g1, g2, f2, x1, x2, x3, x4, x5, x6⟩ := endJ hX y5 N hN
        have kkC : K_Reader_readClause N g = some g1 := by
          rw [e1]
          unfold K_Reader_readClause_J36
          rw [b1, HV_test H (by omega), if_neg ck, if_pos rfl, HV_or H (by omega), nm_s, hset_at, upd_ne _ _ (by decide), c1.2.1.2.1, show nI (skp tx p) + 1 = nI (skp tx p + 1) from nI_add _ 1, nm_s, dispC N (by omega), y1, bd_s]
          unfold K_Reader_readClause_J155
          rw [x1, bd_s]
        have kkM : K_M_river_L25 N f = some (.inl f2) := by
          rw [kM, e3, if_neg ck]
          unfold K_M_takeClause_J69
          rw [want1 m1.2.1, bd2_s, if_neg (by decide), r5b, HV_or H (by omega), nm_s]
          have := dispM N (k := k) (by omega) (hset (hset f1 100 8 (nI (skp tx p + 1))) 100 5 (HV (hadd H k)))
          unfold M_str M_boat M_goal M_wind at this
          rw [this, y2, bd_s]
          exact x3
        have tf : TFr g f g2 f2 := by
          have t0 : TFr g f (hset (hset g 70 4 (HV (hadd H k))) 70 3 (nI (skp tx p + 1))) (hset (hset f1 100 8 (nI (skp tx p + 1))) 100 5 (HV (hadd H k))) := ⟨fun r hr => by rw [hset_ne _ _ _ (ne_of_nm hr (by decide)), hset_ne _ _ _ (ne_of_nm hr (by decide))], fun r hr => by rw [hset_ne _ _ _ (ne_of_nm hr (by decide))]; exact fr1.1 r (ne_of_nm hr (by decide)), fun x hx => by rw [hset_at, upd_ne _ _ (ne_of_nm hx (by decide))]; exact fr1.2 x (fun z => hx (List.mem_cons_of_mem _ z)), hfM_of (by rw [hset_ne _ _ _ (by decide)]; exact fr1.1 103 (by decide)) (by rw [hset_ne _ _ _ (by decide)]; exact fr1.1 104 (by decide)) (by rw [hset_ne _ _ _ (by decide)]; exact fr1.1 105 (by decide))⟩
          exact TFr_trans t0 (TFr_trans (TFr_of y3 y4) (TFr_of (frK_N x4) (frR_M x5)))
        refine ⟨g1, g2, f2, kkC, x2, kkM, tf, ?_⟩
        rcases x6 with ⟨u1, p'', u2, u3⟩ | u
        · left
          obtain ⟨u4, ρ', u5, u6, u7, u8⟩ := y6 u1
          subst u4
          have g70 : g2 70 4 = HV (hadd H k) := by rw [x4.2 4 (by decide), y3.2, hset_at, upd_ne _ _ (by decide), hset_at, upd_at]
          have f100 : f2 100 5 = HV (hadd H k) := by rw [x5.2 5 (by decide), y4.2.1 5 (by decide), hset_at, upd_at]
          have H0 : hadd H k 0 = true := by
            unfold hadd
            by_cases z : k = 0
            · rw [decide_eq_true z.symm, Bool.or_true]
            · rw [h3 z, Bool.true_or]
          exact ⟨p'', hadd H k, ρ', ⟨⟨u2, u3⟩, ⟨g70, f100⟩, u5, RC_N x4 u7, RH_M x5 u8, fun z => by rw [H0] at z; exact absurd z (by decide), fun _ => u6⟩, mu_lt (by omega) hk0⟩
        · exact .inr u

/-! a new object -/
theorem goOnToK {ρ : Rv} (hW : WF ρ) (N : Nat) (hN : 2000 < N) {h : Hp} (hR : RC ρ h) : ∃ g, K_C_goOnTo N h = some g ∧ cR ρ g ∧ (g 30 0 = nI (rS ρ) ∧ g 30 1 = 0 ∧ g 30 2 = h 30 2) ∧ (g 33 0 = 0 ∧ g 33 1 = 0) ∧ (g 35 1 = h 35 1 ∧ g 35 2 = 0) ∧ (g 60 4 = 0 ∧ g 60 5 = 0) ∧ g 40 6 = -1 ∧ (g 45 4 = h 45 4 ∧ g 45 8 = -1) ∧ g 55 3 = -1 ∧ ∀ r, r ∉ ([15, 16, 17, 21, 22, 30, 33, 35, 40, 45, 55, 60] : List Nat) → g r = h r := by
  obtain ⟨h1, c1, c2, c3⟩ := chartK hW hR N hN
  have R1 : RC ρ h1 := RC_of (c3 _ (by decide) (by decide) (by decide)) (c3 _ (by decide) (by decide) (by decide)) (c3 _ (by decide) (by decide) (by decide)) hR
  obtain ⟨h2, t1, t2, t3⟩ := takeK hW R1 N (by omega) (kn := 0) (by omega)
  have e1 : mx [15, 16, 17, 10, 11, 12] h1 h = h1 := mx_eq (fun r hr => c3 r (ne_of_nm hr (by decide)) (ne_of_nm hr (by decide)) (ne_of_nm hr (by decide)))
  have e2 : mx [20, 21, 22, 15, 16, 17, 10, 11, 12] h2 h1 = h2 := mx_eq (fun r hr => t3 r (ne_of_nm hr (by decide)) (ne_of_nm hr (by decide)))
  have R2 : RC ρ h2 := RC_of (t3 _ (by decide) (by decide)) (t3 _ (by decide) (by decide)) (t3 _ (by decide) (by decide)) R1
  have L2 : RL ρ h2 := RL_of (t3 _ (by decide) (by decide)) (t3 _ (by decide) (by decide)) (t3 _ (by decide) (by decide)) c2
  have o2 : ∀ r, r ∉ ([15, 16, 17, 21, 22] : List Nat) → h2 r = h r := fun r hr => (t3 r (ne_of_nm hr (by decide)) (ne_of_nm hr (by decide))).trans (c3 r (ne_of_nm hr (by decide)) (ne_of_nm hr (by decide)) (ne_of_nm hr (by decide)))
  have v7 : h2 10 7 = nI (rS ρ) := R2.2.2.2.2.2.2.1
  have lp : ∀ g : Hp, loopN (fun z_ : Int32 × Hp => K_C_goOnTo_L43 N z_.1 z_.2) N (0, g) = some (hset (hset g 33 0 0) 33 1 0) := by
    intro g
    refine loopN_for (fun z_ : Int32 × Hp => K_C_goOnTo_L43 N z_.1 z_.2) (fun i => (nI i, if i = 0 then g else if i = 1 then hset g 33 0 0 else hset (hset g 33 0 0) 33 1 0)) 2 _ (fun i hi => ?_) ?_ (by omega)
    · rcases (by omega : i = 0 ∨ i = 1) with c | c <;> subst c <;> rfl
    · rfl
  refine ⟨hset (hset (hset (hset (hset (hset (hset (hset (hset (hset h2 30 0 (nI (rS ρ))) 30 1 0) 33 0 0) 33 1 0) 35 2 0) 60 4 0) 60 5 0) 40 6 (-1)) 45 8 (-1)) 55 3 (-1), ?_, ⟨RC_of ?_ ?_ ?_ R2, RL_of ?_ ?_ ?_ L2, RK_of ?_ ?_ t2⟩, ⟨?_, ?_, ?_⟩, ⟨?_, ?_⟩, ⟨?_, ?_⟩, ⟨?_, ?_⟩, ?_, ⟨?_, ?_⟩, ?_, fun r hr => ?_⟩
  · unfold K_C_goOnTo
    rw [c1, bd_s, e1, nm_s, show (0 : Int32) = nI 0 from rfl, t1, bd_s, e2, nm_s, v7, nm_s, nm_s, show nI 0 = (0 : Int32) from rfl, lp, bd_s]
    unfold K_Log_forget K_Lines_empty K_Search_forget K_Calling_forget K_Gusts_forget
    rw [nm_s, bd_s, mx_eq (fun r hr => hset_ne _ _ _ (ne_of_nm hr (by decide))), nm_s, nm_s, nm_s, bd_s, mx_eq (fun r hr => (hset_ne _ _ _ (ne_of_nm hr (by decide))).trans (hset_ne _ _ _ (ne_of_nm hr (by decide)))), nm_s, nm_s, bd_s, mx_eq (fun r hr => hset_ne _ _ _ (ne_of_nm hr (by decide))), nm_s, nm_s, bd_s, mx_eq (fun r hr => hset_ne _ _ _ (ne_of_nm hr (by decide))), nm_s, nm_s, bd_s, mx_eq (fun r hr => hset_ne _ _ _ (ne_of_nm hr (by decide))), nm_s]
  all_goals first
    | (simp [hset, hrow, upd]; done)
    | skip
  · simp only [hset, hrow, upd]
    simp
    rw [o2 30 (by decide), upd_ne _ _ (by decide), upd_ne _ _ (by decide)]
  · simp only [hset, hrow, upd]
    simp
    rw [o2 35 (by decide), upd_ne _ _ (by decide)]
  · simp only [hset, hrow, upd]
    simp
    rw [o2 45 (by decide), upd_ne _ _ (by decide)]
  · have n : ∀ q ∈ ([30, 33, 35, 60, 40, 45, 55] : List Nat), r ≠ q := fun q hq => ne_of_nm hr ((by decide : ∀ q ∈ ([30, 33, 35, 60, 40, 45, 55] : List Nat), q ∈ ([15, 16, 17, 21, 22, 30, 33, 35, 40, 45, 55, 60] : List Nat)) q hq)
    rw [hset_ne _ _ _ (n _ (by decide)), hset_ne _ _ _ (n _ (by decide)), hset_ne _ _ _ (n _ (by decide)), hset_ne _ _ _ (n _ (by decide)), hset_ne _ _ _ (n _ (by decide)), hset_ne _ _ _ (n _ (by decide)), hset_ne _ _ _ (n _ (by decide)), hset_ne _ _ _ (n _ (by decide)), hset_ne _ _ _ (n _ (by decide)), hset_ne _ _ _ (n _ (by decide))]
    exact o2 r (fun q => hr ((by decide : ∀ r ∈ ([15, 16, 17, 21, 22] : List Nat), r ∈ ([15, 16, 17, 21, 22, 30, 33, 35, 40, 45, 55, 60] : List Nat)) r q))
/-- a river not told -/
def rv0 : Rv := (fun i => ([0, 0, 2, 2, 2, 2, 0, 0, 0, 0, 0] : List Nat).getD i 0, fun _ => 1, fun j => j % 4)
theorem rv0_W : WF rv0 := by
  refine ⟨by decide, by decide, by decide, by decide, by decide, by decide, by decide, fun z => absurd rfl z, by decide, by decide, by decide, by decide, fun _ => (by decide : 1 ≤ 6), fun _ _ => rfl, fun j => ?_, by decide, fun _ => rfl, fun z => absurd rfl z⟩
  show j % 4 ≤ 3
  omega
def RI (h : Hp) : Hp := hrow (hset (hset (hset (hset (hset (hset (hset (hset (hrow (hset (hset (hset (hset (hset (hset (hset (hset (hset (hrow (hset (hset h 10 0 0) 10 1 0) 11 (fun _ => 0)) 10 3 2) 10 4 2) 10 5 2) 10 6 2) 10 7 0) 10 8 (-1)) 10 9 (-1)) 10 10 (-1)) 10 11 0) 12 (fun _ => 0)) 12 0 0) 12 1 1) 12 2 2) 12 3 3) 12 4 0) 12 5 1) 12 6 2) 12 7 3) 11 (filled 48 (fun _ => 0) 1)
theorem riverInit (h : Hp) : K_River_init h = some (RI h) := by
  unfold K_River_init
  have s : ∀ (i : Nat) (k : Option Hp), i < 8 → sA 8 (nI i) k = k := fun i k hi => sA_nI hi (by omega)
  have e0 := fun k => s 0 k (by decide)
  have e1 := fun k => s 1 k (by decide)
  have e2 := fun k => s 2 k (by decide)
  have e3 := fun k => s 3 k (by decide)
  have e4 := fun k => s 4 k (by decide)
  have e5 := fun k => s 5 k (by decide)
  have e6 := fun k => s 6 k (by decide)
  have e7 := fun k => s 7 k (by decide)
  have e0 : ∀ k : Option Hp, sA 8 0 k = k := e0
  have e1 : ∀ k : Option Hp, sA 8 1 k = k := e1
  have e2 : ∀ k : Option Hp, sA 8 2 k = k := e2
  have e3 : ∀ k : Option Hp, sA 8 3 k = k := e3
  have e4 : ∀ k : Option Hp, sA 8 4 k = k := e4
  have e5 : ∀ k : Option Hp, sA 8 5 k = k := e5
  have e6 : ∀ k : Option Hp, sA 8 6 k = k := e6
  have e7 : ∀ k : Option Hp, sA 8 7 k = k := e7
  simp only [nm_s, e0, e1, e2, e3, e4, e5, e6, e7]
  unfold RI
  congr 2
theorem RI_RC (h : Hp) : RC rv0 (RI h) := by
  refine ⟨?_, ?_, ?_, ?_, ?_, ?_, ?_, ?_, ?_, ?_, ?_, fun s hs => ?_, fun j hj => ?_⟩
  · simp [RI, hset, hrow, upd]; rfl
  · simp [RI, hset, hrow, upd]; rfl
  · simp [RI, hset, hrow, upd]; rfl
  · simp [RI, hset, hrow, upd]; rfl
  · simp [RI, hset, hrow, upd]; rfl
  · simp [RI, hset, hrow, upd]; rfl
  · simp [RI, hset, hrow, upd]; rfl
  · simp [RI, hset, hrow, upd]; rfl
  · rw [if_pos (show rG rv0 = 0 from rfl)]; simp [RI, hset, hrow, upd]
  · simp [RI, hset, hrow, upd]; rfl
  · simp [RI, hset, hrow, upd]; rfl
  · show hrow _ 11 (filled 48 (fun _ => 0) 1) 11 s = nI 1
    rw [hrow_at]
    exact if_pos hs
  · rcases (by omega : j = 0 ∨ j = 1 ∨ j = 2 ∨ j = 3 ∨ j = 4 ∨ j = 5 ∨ j = 6 ∨ j = 7) with c | c | c | c | c | c | c | c <;> subst c <;> (simp [RI, hset, hrow, upd]; rfl)
theorem RI_ne (h : Hp) {r : Nat} (hr : r ∉ ([10, 11, 12] : List Nat)) : RI h r = h r := by
  have n0 : r ≠ 10 := ne_of_nm hr (by decide)
  have n1 : r ≠ 11 := ne_of_nm hr (by decide)
  have n2 : r ≠ 12 := ne_of_nm hr (by decide)
  simp [RI, hset, hrow, n0, n1, n2]
theorem hrow_zn (h : Hp) {r q : Nat} (f : Nat → Int32) (n : q ≠ r) : hrow h r f q = h q := hrow_ne h f n
theorem watersI (h : Hp) : ∃ g, K_Waters_init h = some g ∧ ∀ r, r ∉ ([15, 16, 17] : List Nat) → g r = h r := ⟨_, rfl, fun r hr => by rw [hset_ne _ _ _ (ne_of_nm hr (by decide)), hrow_ne _ _ (ne_of_nm hr (by decide)), hrow_ne _ _ (ne_of_nm hr (by decide))]⟩
theorem crewI (h : Hp) : ∃ g, K_Crew_init h = some g ∧ ∀ r, r ∉ ([20, 21, 22] : List Nat) → g r = h r := ⟨_, rfl, fun r hr => by rw [hrow_ne _ _ (ne_of_nm hr (by decide)), hrow_ne _ _ (ne_of_nm hr (by decide))]⟩
theorem threeI (h : Hp) : ∃ g, K_Three_init h = some g ∧ ∀ r, r ∉ ([25, 26, 27] : List Nat) → g r = h r := ⟨_, rfl, fun r hr => by rw [hrow_ne _ _ (ne_of_nm hr (by decide)), hrow_ne _ _ (ne_of_nm hr (by decide))]⟩
theorem boatI (h : Hp) : ∃ g, K_Boat_init h = some g ∧ (∀ r, r ∉ ([30] : List Nat) → g r = h r) ∧ g 30 2 = 0 := ⟨_, rfl, fun r hr => by rw [hset_ne _ _ _ (ne_of_nm hr (by decide)), hset_ne _ _ _ (ne_of_nm hr (by decide)), hset_ne _ _ _ (ne_of_nm hr (by decide))], by rw [hset_at, upd_at]⟩
theorem logI (h : Hp) : ∃ g, K_Log_init h = some g ∧ (∀ r, r ∉ ([35, 36] : List Nat) → g r = h r) ∧ g 35 1 = 0 := ⟨_, rfl, fun r hr => by rw [hset_ne _ _ _ (ne_of_nm hr (by decide)), hset_ne _ _ _ (ne_of_nm hr (by decide)), hrow_ne _ _ (ne_of_nm hr (by decide))], by rw [hset_at, upd_ne _ _ (by decide), hset_at, upd_at]⟩
theorem linesI (h : Hp) : ∃ g, K_Lines_init h = some g ∧ ∀ r, r ∉ ([60, 61, 62, 63, 64] : List Nat) → g r = h r := ⟨_, rfl, fun r hr => by rw [hset_ne _ _ _ (ne_of_nm hr (by decide)), hset_ne _ _ _ (ne_of_nm hr (by decide)), hrow_ne _ _ (ne_of_nm hr (by decide)), hrow_ne _ _ (ne_of_nm hr (by decide)), hrow_ne _ _ (ne_of_nm hr (by decide)), hrow_ne _ _ (ne_of_nm hr (by decide))]⟩
theorem searchI (h : Hp) : ∃ g, K_Search_init h = some g ∧ ∀ r, r ∉ ([40, 41, 42, 43] : List Nat) → g r = h r := ⟨_, rfl, fun r hr => by rw [hset_ne _ _ _ (ne_of_nm hr (by decide)), hset_ne _ _ _ (ne_of_nm hr (by decide)), hset_ne _ _ _ (ne_of_nm hr (by decide)), hset_ne _ _ _ (ne_of_nm hr (by decide)), hrow_ne _ _ (ne_of_nm hr (by decide)), hrow_ne _ _ (ne_of_nm hr (by decide)), hrow_ne _ _ (ne_of_nm hr (by decide))]⟩
theorem callingI (h : Hp) : ∃ g, K_Calling_init h = some g ∧ (∀ r, r ∉ ([45, 46, 47, 48, 49] : List Nat) → g r = h r) ∧ g 45 4 = 0 ∧ ∀ x, g 48 x = 0 := ⟨_, rfl, fun r hr => by rw [hset_ne _ _ _ (ne_of_nm hr (by decide)), hset_ne _ _ _ (ne_of_nm hr (by decide)), hset_ne _ _ _ (ne_of_nm hr (by decide)), hset_ne _ _ _ (ne_of_nm hr (by decide)), hset_ne _ _ _ (ne_of_nm hr (by decide)), hrow_ne _ _ (ne_of_nm hr (by decide)), hrow_ne _ _ (ne_of_nm hr (by decide)), hrow_ne _ _ (ne_of_nm hr (by decide)), hrow_ne _ _ (ne_of_nm hr (by decide))], by rw [hset_at, upd_ne _ _ (by decide), hset_at, upd_ne _ _ (by decide), hset_at, upd_ne _ _ (by decide), hset_at, upd_ne _ _ (by decide), hset_at, upd_at], fun x => by rw [hset_ne _ _ _ (by decide), hset_ne _ _ _ (by decide), hset_ne _ _ _ (by decide), hset_ne _ _ _ (by decide), hset_ne _ _ _ (by decide), hrow_ne _ _ (by decide), hrow_at]⟩
theorem gustsI (h : Hp) : ∃ g, K_Gusts_init h = some g ∧ ∀ r, r ∉ ([55, 56] : List Nat) → g r = h r := ⟨_, rfl, fun r hr => by rw [hset_ne _ _ _ (ne_of_nm hr (by decide)), hset_ne _ _ _ (ne_of_nm hr (by decide)), hset_ne _ _ _ (ne_of_nm hr (by decide)), hrow_ne _ _ (ne_of_nm hr (by decide))]⟩
theorem initC0 (N : Nat) (h : Hp) : ∃ G, K_C_init N h = bd (K_C_goOnTo N G) (fun h154 => nm (mx [0, 2, 10, 11, 12, 15, 16, 17, 20, 21, 22, 25, 26, 27, 30, 33, 35, 36, 40, 41, 42, 43, 45, 46, 47, 48, 49, 55, 56, 60, 61, 62, 63, 64] h154 G) fun h154m => some h154m) ∧ RC rv0 G ∧ (G 0 1 = 0 ∧ G 0 2 = -1) ∧ G 30 2 = 0 ∧ G 35 1 = 0 ∧ G 45 4 = 0 ∧ (∀ x, G 48 x = 0) ∧ G 31 = h 31 ∧ G 32 = h 32 := by
  unfold K_C_init
  rw [nm_s, nm_s, nm_s, nm_s, riverInit, bd_s, mx_eq (fun r hr => RI_ne _ hr), nm_s]
  have a1 := RI_RC (hrow (hset (hset (hrow h 2 (fun _ => 0)) 0 1 0) 0 2 (-1)) 10 (fun _ => 0))
  have a2 : RI (hrow (hset (hset (hrow h 2 (fun _ => 0)) 0 1 0) 0 2 (-1)) 10 (fun _ => 0)) 0 1 = 0 := by rw [RI_ne _ (by decide), hrow_ne _ _ (by decide), hset_at, upd_ne _ _ (by decide), hset_at, upd_at]
  have a3 : RI (hrow (hset (hset (hrow h 2 (fun _ => 0)) 0 1 0) 0 2 (-1)) 10 (fun _ => 0)) 0 2 = -1 := by rw [RI_ne _ (by decide), hrow_ne _ _ (by decide), hset_at, upd_at]
  have a4 : RI (hrow (hset (hset (hrow h 2 (fun _ => 0)) 0 1 0) 0 2 (-1)) 10 (fun _ => 0)) 31 = h 31 := by rw [RI_ne _ (by decide), hrow_ne _ _ (by decide), hset_ne _ _ _ (by decide), hset_ne _ _ _ (by decide), hrow_ne _ _ (by decide)]
  have a5 : RI (hrow (hset (hset (hrow h 2 (fun _ => 0)) 0 1 0) 0 2 (-1)) 10 (fun _ => 0)) 32 = h 32 := by rw [RI_ne _ (by decide), hrow_ne _ _ (by decide), hset_ne _ _ _ (by decide), hset_ne _ _ _ (by decide), hrow_ne _ _ (by decide)]
  generalize RI (hrow (hset (hset (hrow h 2 (fun _ => 0)) 0 1 0) 0 2 (-1)) 10 (fun _ => 0)) = g1 at a1 a2 a3 a4 a5 ⊢
  obtain ⟨g2, w1, w2⟩ := watersI (hrow g1 15 (fun _ => 0))
  rw [nm_s, w1, bd_s, mx_eq w2, nm_s]
  have b2 : ∀ r, r ∉ ([15, 16, 17] : List Nat) → g2 r = g1 r := fun r hr => (w2 r hr).trans (hrow_ne _ _ (ne_of_nm hr (by decide)))
  obtain ⟨g3, w1, w2⟩ := crewI (hrow g2 20 (fun _ => 0))
  rw [nm_s, w1, bd_s, mx_eq w2, nm_s]
  have b3 : ∀ r, r ∉ ([20, 21, 22] : List Nat) → g3 r = g2 r := fun r hr => (w2 r hr).trans (hrow_ne _ _ (ne_of_nm hr (by decide)))
  obtain ⟨g4, w1, w2⟩ := threeI (hrow g3 25 (fun _ => 0))
  rw [nm_s, w1, bd_s, mx_eq w2, nm_s]
  have b4 : ∀ r, r ∉ ([25, 26, 27] : List Nat) → g4 r = g3 r := fun r hr => (w2 r hr).trans (hrow_ne _ _ (ne_of_nm hr (by decide)))
  obtain ⟨g5, w1, w2, w3⟩ := boatI (hrow g4 30 (fun _ => 0))
  rw [nm_s, w1, bd_s, mx_eq w2, nm_s, nm_s]
  have b5 : ∀ r, r ∉ ([30] : List Nat) → g5 r = g4 r := fun r hr => (w2 r hr).trans (hrow_ne _ _ (ne_of_nm hr (by decide)))
  obtain ⟨g6, x1, x2, x3⟩ := logI (hrow (hrow g5 33 (fun _ => 0)) 35 (fun _ => 0))
  rw [nm_s, x1, bd_s, mx_eq x2, nm_s]
  have b6 : ∀ r, r ∉ ([33, 35, 36] : List Nat) → g6 r = g5 r := fun r hr => (x2 r (fun q => hr ((by decide : ∀ r ∈ ([35, 36] : List Nat), r ∈ ([33, 35, 36] : List Nat)) r q))).trans ((hrow_ne _ _ (ne_of_nm hr (by decide))).trans (hrow_ne _ _ (ne_of_nm hr (by decide))))
  obtain ⟨g7, y1, y2⟩ := linesI (hrow g6 60 (fun _ => 0))
  rw [nm_s, y1, bd_s, mx_eq y2, nm_s]
  have b7 : ∀ r, r ∉ ([60, 61, 62, 63, 64] : List Nat) → g7 r = g6 r := fun r hr => (y2 r hr).trans (hrow_ne _ _ (ne_of_nm hr (by decide)))
  obtain ⟨g8, y1, y2⟩ := searchI (hrow g7 40 (fun _ => 0))
  rw [nm_s, y1, bd_s, mx_eq y2, nm_s]
  have b8 : ∀ r, r ∉ ([40, 41, 42, 43] : List Nat) → g8 r = g7 r := fun r hr => (y2 r hr).trans (hrow_ne _ _ (ne_of_nm hr (by decide)))
  obtain ⟨g9, y1, y2, y3, y4⟩ := callingI (hrow g8 45 (fun _ => 0))
  rw [nm_s, y1, bd_s, mx_eq y2, nm_s]
  have b9 : ∀ r, r ∉ ([45, 46, 47, 48, 49] : List Nat) → g9 r = g8 r := fun r hr => (y2 r hr).trans (hrow_ne _ _ (ne_of_nm hr (by decide)))
  obtain ⟨g10, z1, z2⟩ := gustsI (hrow g9 55 (fun _ => 0))
  rw [nm_s, z1, bd_s, mx_eq z2, nm_s]
  have b10 : ∀ r, r ∉ ([55, 56] : List Nat) → g10 r = g9 r := fun r hr => (z2 r hr).trans (hrow_ne _ _ (ne_of_nm hr (by decide)))
  have to1 : ∀ r, r ∉ ([15, 16, 17, 20, 21, 22, 25, 26, 27, 30, 33, 35, 36, 40, 41, 42, 43, 45, 46, 47, 48, 49, 55, 56, 60, 61, 62, 63, 64] : List Nat) → g10 r = g1 r := fun r hr => by
    have n : ∀ L : List Nat, (∀ q ∈ L, q ∈ ([15, 16, 17, 20, 21, 22, 25, 26, 27, 30, 33, 35, 36, 40, 41, 42, 43, 45, 46, 47, 48, 49, 55, 56, 60, 61, 62, 63, 64] : List Nat)) → r ∉ L := fun L hL q => hr (hL r q)
    rw [b10 r (n _ (by decide)), b9 r (n _ (by decide)), b8 r (n _ (by decide)), b7 r (n _ (by decide)), b6 r (n _ (by decide)), b5 r (n _ (by decide)), b4 r (n _ (by decide)), b3 r (n _ (by decide)), b2 r (n _ (by decide))]
  refine ⟨g10, rfl, RC_of (to1 _ (by decide)) (to1 _ (by decide)) (to1 _ (by decide)) a1, ⟨?_, ?_⟩, ?_, ?_, ?_, fun x => ?_, ?_, ?_⟩
  · rw [to1 0 (by decide)]; exact a2
  · rw [to1 0 (by decide)]; exact a3
  · rw [b10 30 (by decide), b9 30 (by decide), b8 30 (by decide), b7 30 (by decide), b6 30 (by decide)]; exact w3
  · rw [b10 35 (by decide), b9 35 (by decide), b8 35 (by decide), b7 35 (by decide)]; exact x3
  · rw [b10 45 (by decide)]; exact y3
  · rw [b10 48 (by decide)]; exact y4 x
  · rw [to1 31 (by decide)]; exact a4
  · rw [to1 32 (by decide)]; exact a5
/-- the reference's words of nothing told -/
def tn0 (k : Nat) : Int32 := if k < 2 then 0 else if k < 6 then 2 else if k < 8 then 0 else if k < 11 then -1 else 0
theorem tellM (N : Nat) (hN : 200 < N) (h : Hp) {w : Nat} (hw : w ≤ 1) : ∃ g, K_M_tellNothing N (nI w) h = some g ∧ (∀ r, r ∉ ([104, 105] : List Nat) → g r = h r) ∧ (∀ k, k < 12 → g 104 (12 * w + k) = tn0 k) ∧ (∀ j, (j < 12 * w ∨ 12 * w + 12 ≤ j) → g 104 j = h 104 j) ∧ (∀ k, k < 8 → g 105 (8 * w + k) = nI (k % 4)) ∧ ∀ j, (j < 8 * w ∨ 8 * w + 8 ≤ j) → g 105 j = h 105 j := by
  obtain ⟨t1, l1, f1, f2, f3⟩ := loopN_fx (fun z_ : Int32 × Hp => K_M_tellNothing_L2 N (nI w) z_.1 z_.2) (fun i s => ∃ g, s = (nI i, g) ∧ (∀ r, r ≠ 104 → g r = h r) ∧ (∀ k, k < i → g 104 (12 * w + k) = tn0 k) ∧ ∀ j, (j < 12 * w ∨ 12 * w + 12 ≤ j) → g 104 j = h 104 j) 12 (fun t => (∀ r, r ≠ 104 → t r = h r) ∧ (∀ k, k < 12 → t 104 (12 * w + k) = tn0 k) ∧ ∀ j, (j < 12 * w ∨ 12 * w + 12 ≤ j) → t 104 j = h 104 j) (fun i s hi hJ => by
      obtain ⟨g, e, f1, f2, f3⟩ := hJ
      subst e
      have j58 : ∀ v : Int32, v = tn0 i → K_M_tellNothing_J58 N (nI w) (nI i) (12 * nI w + nI i) v g = some (.inl (nI (i + 1), hset g 104 (12 * w + i) (tn0 i))) := fun v ev => by
        unfold K_M_tellNothing_J58
        rw [show (12 : Int32) * nI w + nI i = nI (12 * w + i) by rw [show (12 : Int32) = nI 12 from rfl, nI_mul, nI_add], sA_nI (by omega) (by omega), nI_cl (by omega), nm_s, show nI i + 1 = nI (i + 1) from nI_add i 1, nm_s, ev]
      refine ⟨(nI (i + 1), hset g 104 (12 * w + i) (tn0 i)), ?_, _, rfl, fun r hr => (hset_ne _ _ _ hr).trans (f1 r hr), fun k hk => ?_, fun j hj => ?_⟩
      · show K_M_tellNothing_L2 N (nI w) (nI i) g = _
        unfold K_M_tellNothing_L2
        have k12 : (12 : Int32) ≤ nI i ↔ 12 ≤ i := nI_le_iff (a := 12) (by omega) (by omega)
        have k2 : (2 : Int32) ≤ nI i ↔ 2 ≤ i := nI_le_iff (a := 2) (by omega) (by omega)
        have k6 : (6 : Int32) ≤ nI i ↔ 6 ≤ i := nI_le_iff (a := 6) (by omega) (by omega)
        have k8 : (8 : Int32) ≤ nI i ↔ 8 ≤ i := nI_le_iff (a := 8) (by omega) (by omega)
        have k11 : (11 : Int32) ≤ nI i ↔ 11 ≤ i := nI_le_iff (a := 11) (by omega) (by omega)
        rw [if_neg (fun q => by have := k12.mp q; omega)]
        by_cases c2 : 2 ≤ i
        · rw [if_pos (k2.mpr c2)]
          by_cases c6 : 6 ≤ i
          · rw [if_pos (k6.mpr c6)]
            by_cases c8 : 8 ≤ i
            · rw [if_pos (k8.mpr c8)]
              by_cases c11 : 11 ≤ i
              · rw [if_pos (k11.mpr c11)]
                exact j58 _ (by unfold tn0; rw [if_neg (by omega), if_neg (by omega), if_neg (by omega), if_neg (by omega)])
              · rw [if_neg (fun q => c11 (k11.mp q))]
                exact j58 _ (by unfold tn0; rw [if_neg (by omega), if_neg (by omega), if_neg (by omega), if_pos (by omega)])
            · rw [if_neg (fun q => c8 (k8.mp q))]
              exact j58 _ (by unfold tn0; rw [if_neg (by omega), if_neg (by omega), if_pos (by omega)])
          · rw [if_neg (fun q => c6 (k6.mp q))]
            exact j58 _ (by unfold tn0; rw [if_neg (by omega), if_pos (by omega)])
        · rw [if_neg (fun q => c2 (k2.mp q))]
          exact j58 _ (by unfold tn0; rw [if_pos (by omega)])
      · rw [hset_at]
        by_cases c : k = i
        · rw [c, upd_at]
        · rw [upd_ne _ _ (by omega)]; exact f2 k (by omega)
      · rw [hset_at, upd_ne _ _ (by omega)]; exact f3 j hj) (fun s hJ => by
      obtain ⟨g, e, f⟩ := hJ
      subst e
      refine ⟨g, ?_, f⟩
      show K_M_tellNothing_L2 N (nI w) (nI 12) g = _
      unfold K_M_tellNothing_L2
      rw [if_pos (by decide)]) (s0 := (0, h)) ⟨h, rfl, fun _ _ => rfl, fun k hk => absurd hk (Nat.not_lt_zero _), fun _ _ => rfl⟩ (N := N) (by omega)
  obtain ⟨t2, l2, f4, f5, f6⟩ := loopN_fx (fun z_ : Int32 × Hp => K_M_tellNothing_L67 N (nI w) z_.1 z_.2) (fun i s => ∃ g, s = (nI i, g) ∧ (∀ r, r ≠ 105 → g r = t1 r) ∧ (∀ k, k < i → g 105 (8 * w + k) = nI (k % 4)) ∧ ∀ j, (j < 8 * w ∨ 8 * w + 8 ≤ j) → g 105 j = t1 105 j) 8 (fun t => (∀ r, r ≠ 105 → t r = t1 r) ∧ (∀ k, k < 8 → t 105 (8 * w + k) = nI (k % 4)) ∧ ∀ j, (j < 8 * w ∨ 8 * w + 8 ≤ j) → t 105 j = t1 105 j) (fun i s hi hJ => by
      obtain ⟨g, e, f1, f2, f3⟩ := hJ
      subst e
      refine ⟨(nI (i + 1), hset g 105 (8 * w + i) (nI (i % 4))), ?_, _, rfl, fun r hr => (hset_ne _ _ _ hr).trans (f1 r hr), fun k hk => ?_, fun j hj => ?_⟩
      · show K_M_tellNothing_L67 N (nI w) (nI i) g = _
        unfold K_M_tellNothing_L67
        rw [if_neg (show ¬ (8 : Int32) ≤ nI i from fun q => by have := (nI_le_iff (a := 8) (by omega) (by omega)).mp q; omega), show (8 : Int32) = nI 8 from rfl, nI_mul, nI_add, sA_nI (by omega) (by omega), nI_cl (by omega), show (4 : Int32) = nI 4 from rfl, nI_rem (by omega) (by omega) (by omega), nm_s, show nI i + 1 = nI (i + 1) from nI_add i 1, nm_s]
      · rw [hset_at]
        by_cases c : k = i
        · rw [c, upd_at]
        · rw [upd_ne _ _ (by omega)]; exact f2 k (by omega)
      · rw [hset_at, upd_ne _ _ (by omega)]; exact f3 j hj) (fun s hJ => by
      obtain ⟨g, e, f⟩ := hJ
      subst e
      refine ⟨g, ?_, f⟩
      show K_M_tellNothing_L67 N (nI w) (nI 8) g = _
      unfold K_M_tellNothing_L67
      rw [if_pos (by decide)]) (s0 := (0, t1)) ⟨t1, rfl, fun _ _ => rfl, fun k hk => absurd hk (Nat.not_lt_zero _), fun _ _ => rfl⟩ (N := N) (by omega)
  refine ⟨t2, ?_, fun r hr => (f4 r (ne_of_nm hr (by decide))).trans (f1 r (ne_of_nm hr (by decide))), fun k hk => by rw [f4 104 (by decide)]; exact f2 k hk, fun j hj => by rw [f4 104 (by decide)]; exact f3 j hj, f5, fun j hj => by rw [f6 j hj, f1 105 (by decide)]⟩
  unfold K_M_tellNothing
  rw [l1, bd_s, l2, bd_s]
def a0S : St := (rv0, [], -1, (0, 0, 0), [], [], [], none, none)
theorem MO_start_ok (N : Nat) (hN : 2000 < N) : MO_start N Inv := by
  intro h
  obtain ⟨G, g1, g2, ⟨g3, g4⟩, g5, g6, g7, g8, g9, g10⟩ := initC0 N (hrow h 0 (fun _ => 0))
  obtain ⟨g, z1, z2, ⟨z3, z4, z5⟩, ⟨z6, z7⟩, ⟨z8, z9⟩, ⟨z10, z11⟩, z12, ⟨z13, z14⟩, z15, z16⟩ := goOnToK rv0_W N hN g2
  have em : mx lC g G = g := mx_eq (fun r hr => z16 r (fun q => hr ((by decide : ∀ r ∈ ([15, 16, 17, 21, 22, 30, 33, 35, 40, 45, 55, 60] : List Nat), r ∈ lC) r q)))
  have kC : K_C_init N (hrow h 0 (fun _ => 0)) = some g := by rw [g1, z1, bd_s, em, nm_s]
  have hC : IC 0 a0S g := by
    refine ⟨⟨by rw [z16 0 (by decide)]; exact g3, fun j hj => absurd hj (Nat.not_lt_zero _)⟩, ?_, z2, ⟨z3, z4, by rw [z5]; exact g5⟩, ⟨0, by omega, by rw [z8]; exact g6, z9, fun j hj => absurd hj (Nat.not_lt_zero _)⟩, ⟨z10, fun j hj => absurd hj (Nat.not_lt_zero _)⟩, ⟨z11, fun j hj => absurd hj (Nat.not_lt_zero _)⟩, z6, z7, .inl z12, ⟨⟨0, by omega, by rw [z13]; exact g7, fun m _ => ⟨0, by omega, by rw [z16 48 (by decide)]; exact g8 m⟩⟩, .inl z14⟩, .inl z15⟩
    show g 0 2 = -1
    rw [z16 0 (by decide)]; exact g4
  have e31 : g 31 = (hrow h 0 (fun _ => 0)) 31 := (z16 31 (by decide)).trans g9
  have e32 : g 32 = (hrow h 0 (fun _ => 0)) 32 := (z16 32 (by decide)).trans g10
  have hv : VS 0 a0S := ⟨rv0_W, ⟨Nat.le_refl _, fun c hc => absurd hc List.not_mem_nil⟩, ⟨⟨by decide, fun _ => rfl, fun z => absurd rfl z⟩, Nat.le_refl _, by decide⟩, ⟨Nat.zero_le _, Nat.le_refl _, fun u hu => absurd hu List.not_mem_nil⟩, ⟨Nat.zero_le _, fun s hs => absurd hs List.not_mem_nil⟩, ⟨Nat.zero_le _, fun s hs => absurd hs List.not_mem_nil⟩, trivial, trivial⟩
  have hCC : IC 0 a0S (mx lC g (hrow h 0 (fun _ => 0))) := IC_mx e31 e32 hC
  suffices hm : ∃ h2, K_M_init N (hrow (mx lC g (hrow h 0 (fun _ => 0))) 100 (fun _ => 0)) = some h2 ∧ IM a0S h2 by
    obtain ⟨h2, m1, m2⟩ := hm
    refine ⟨g, h2, kC, m1, a0S, hv, IC_same (Nat.le_refl _) (fun r hr => ?_) hCC, IM_M m2, rfl, rfl⟩
    rw [mxM_ne _ _ (fun z => by
      have := lM_ge r z
      revert hr this; revert r; unfold clR; decide)]
    exact hrow_ne _ _ (fun z => by subst z; revert hr; unfold clR; decide)
  generalize mx lC g (hrow h 0 (fun _ => 0)) = hh
  unfold K_M_init
  iterate 16 rw [nm_s]
  have f0 : ∀ r, r ∈ ([101, 102, 103, 104, 105, 106, 107, 108, 109, 110, 111, 112, 113, 114, 115] : List Nat) → ∀ x, (hrow (hrow (hrow (hrow (hrow (hrow (hrow (hrow (hrow (hset (hrow (hrow (hrow (hrow (hrow (hrow (hrow hh 100 (fun _ => 0)) 101 (fun _ => 0)) 102 (fun _ => 0)) 103 (fun _ => 0)) 104 (fun _ => 0)) 105 (fun _ => 0)) 106 (fun _ => 0)) 100 11 (-1)) 107 (fun _ => 0)) 108 (fun _ => 0)) 109 (fun _ => 0)) 110 (fun _ => 0)) 111 (fun _ => 0)) 112 (fun _ => 0)) 113 (fun _ => 0)) 114 (fun _ => 0)) 115 (fun _ => 0) : Hp) r x = 0 := by
    intro r hr x
    simp only [List.mem_cons, List.not_mem_nil, or_false] at hr
    rcases hr with c | c | c | c | c | c | c | c | c | c | c | c | c | c | c <;> subst c <;> simp [hrow, hset]
  have f1 : (hrow (hrow (hrow (hrow (hrow (hrow (hrow (hrow (hrow (hset (hrow (hrow (hrow (hrow (hrow (hrow (hrow hh 100 (fun _ => 0)) 101 (fun _ => 0)) 102 (fun _ => 0)) 103 (fun _ => 0)) 104 (fun _ => 0)) 105 (fun _ => 0)) 106 (fun _ => 0)) 100 11 (-1)) 107 (fun _ => 0)) 108 (fun _ => 0)) 109 (fun _ => 0)) 110 (fun _ => 0)) 111 (fun _ => 0)) 112 (fun _ => 0)) 113 (fun _ => 0)) 114 (fun _ => 0)) 115 (fun _ => 0) : Hp) 100 = upd (fun _ => 0) 11 (-1) := by simp [hrow, hset]
  generalize (hrow (hrow (hrow (hrow (hrow (hrow (hrow (hrow (hrow (hset (hrow (hrow (hrow (hrow (hrow (hrow (hrow hh 100 (fun _ => 0)) 101 (fun _ => 0)) 102 (fun _ => 0)) 103 (fun _ => 0)) 104 (fun _ => 0)) 105 (fun _ => 0)) 106 (fun _ => 0)) 100 11 (-1)) 107 (fun _ => 0)) 108 (fun _ => 0)) 109 (fun _ => 0)) 110 (fun _ => 0)) 111 (fun _ => 0)) 112 (fun _ => 0)) 113 (fun _ => 0)) 114 (fun _ => 0)) 115 (fun _ => 0) : Hp) = k0 at f0 f1 ⊢
  obtain ⟨t1, t2, t3, t4, t5, t6, t7⟩ := tellM N (by omega) k0 (w := 0) (by omega)
  obtain ⟨u1, u2, u3, u4, u5, u6, u7⟩ := tellM N (by omega) t1 (w := 1) (by omega)
  have m1 : mx lM t1 k0 = t1 := mx_eq (fun r hr => t3 r (fun q => hr ((by decide : ∀ r ∈ ([104, 105] : List Nat), r ∈ lM) r q)))
  have m2 : mx lM u1 t1 = u1 := mx_eq (fun r hr => u3 r (fun q => hr ((by decide : ∀ r ∈ ([104, 105] : List Nat), r ∈ lM) r q)))
  have t2 : K_M_tellNothing N 0 k0 = some t1 := t2
  have u2 : K_M_tellNothing N 1 t1 = some u1 := u2
  refine ⟨u1, by rw [t2, bd_s, m1, nm_s, u2, bd_s, m2, nm_s], ?_⟩
  have r100 : u1 100 = upd (fun _ => 0) 11 (-1) := by rw [u3 100 (by decide), t3 100 (by decide)]; exact f1
  have r0 : ∀ r, r ∈ ([101, 102, 103, 106, 107, 112, 114, 115] : List Nat) → ∀ x, u1 r x = 0 := fun r hr x => by
    rw [u3 r (fun q => by revert hr q; revert r; decide), t3 r (fun q => by revert hr q; revert r; decide)]
    exact f0 r ((by decide : ∀ r ∈ ([101, 102, 103, 106, 107, 112, 114, 115] : List Nat), r ∈ ([101, 102, 103, 104, 105, 106, 107, 108, 109, 110, 111, 112, 113, 114, 115] : List Nat)) r hr) x
  have w104 : ∀ k, k < 12 → u1 104 k = tn0 k := fun k hk => by
    rw [u5 k (.inl (by omega))]
    have := t4 k hk
    rw [show 12 * 0 + k = k by omega] at this
    exact this
  have w105 : ∀ k, k < 8 → u1 105 k = nI (k % 4) := fun k hk => by
    rw [u7 k (.inl (by omega))]
    have := t6 k hk
    rw [show 8 * 0 + k = k by omega] at this
    exact this
  refine ⟨⟨w104 0 (by decide), w104 1 (by decide), w104 2 (by decide), w104 3 (by decide), w104 4 (by decide), w104 5 (by decide), w104 8 (by decide), w104 9 (by decide), w104 10 (by decide), w104 11 (by decide), fun s hs => absurd hs.1 (Nat.not_lt_zero _), w105⟩, by rw [r100]; rfl, ⟨by rw [r100]; rfl, fun j hj => absurd hj (Nat.not_lt_zero _)⟩, ?_, ⟨r0 101 (by decide) 0, r0 101 (by decide) 1, r0 101 (by decide) 2, r0 101 (by decide) 3⟩, ⟨by rw [r100]; rfl, fun j hj => absurd hj (Nat.not_lt_zero _)⟩, ⟨by rw [r100]; rfl, fun j hj => absurd hj (Nat.not_lt_zero _)⟩, ⟨by rw [r100]; rfl, fun j hj => absurd hj (Nat.not_lt_zero _)⟩, r0 102 (by decide) 0, r0 102 (by decide) 1⟩
  show u1 100 11 = -1
  rw [r100]; rfl

/-! river: the class -/
def mvC (g1 : Hp) : Hp := hset (hset g1 0 1 0) 0 2 (g1 70 7)
theorem runC {h : Hp} {n : Nat} (hn : n ≤ 64) (h1 : h 0 1 = nI n) (N : Nat) {g1 : Hp} (hr : K_Reader_readText N (rs0 h n) = some g1) (fr : ∀ r, r ∉ ([70, 10, 11, 12] : List Nat) → g1 r = rs0 h n r) : K_C_river N h = if g1 70 6 = 0 then (bd (K_C_goOnTo N (mvC g1)) <| fun h53 => nm (mx lC h53 (mvC g1)) <| fun h53m => some (((h53m 10 0) * (h53m 10 1)), h53m)) else some (((-10) - g1 70 6), hb8 (mvC g1)) := by
  obtain ⟨a1, a2⟩ := readerK hn h1
  have e : mx [70, 2, 10, 11, 12] g1 (rs0 h n) = g1 := mx_eq (fun r hr => fr r (fun z => hr ((by decide : ∀ r ∈ ([70, 10, 11, 12] : List Nat), r ∈ ([70, 2, 10, 11, 12] : List Nat)) r z)))
  unfold K_C_river
  rw [nm_s, nm_s, a1, bd_s, a2, nm_s, hr, bd_s, e, nm_s, nm_s, nm_s, hset_ne _ _ _ (show (70 : Nat) ≠ 0 by decide), hset_ne _ _ _ (show (70 : Nat) ≠ 0 by decide)]
  rfl
theorem hk8_ne (h : Hp) {r : Nat} (hr : r ∉ ([80, 81, 82] : List Nat)) : hk8 h r = h r := by
  unfold hk8
  rw [hrow_ne _ _ (ne_of_nm hr (by decide)), hrow_ne _ _ (ne_of_nm hr (by decide)), hrow_ne _ _ (ne_of_nm hr (by decide))]
theorem mv_ne {h : Hp} {n : Nat} {g1 : Hp} (fr : ∀ r, r ∉ ([70, 10, 11, 12] : List Nat) → g1 r = rs0 h n r) {r : Nat} (hr : r ∉ ([0, 70, 10, 11, 12, 80, 81, 82] : List Nat)) : mvC g1 r = h r := by
  have m : ∀ L : List Nat, (∀ q ∈ L, q ∈ ([0, 70, 10, 11, 12, 80, 81, 82] : List Nat)) → r ∉ L := fun L hL z => hr (hL r z)
  unfold mvC
  rw [hset_ne _ _ _ (ne_of_nm hr (by decide)), hset_ne _ _ _ (ne_of_nm hr (by decide)), fr r (m _ (by decide)), rs0_f.2.2.2.2.2.2 r (m _ (by decide)), hk8_ne _ (m _ (by decide))]
/-- the state once a river is told -/
def aNw (a : St) (ρ : Rv) : St := (ρ, [], -1, (rS ρ, 0, (sB a).2.2), [], [], [], none, none)
def aFl (a : St) (P : Int32) : St := (sR a, [], P, sB a, sL a, sN a, sE a, sI0 a, sI1 a)
theorem VS_N {k : Nat} {a : St} (hV : VS k a) {ρ : Rv} (hW : WF ρ) : VS (k + 1) (aNw a ρ) := by
  have w := hW.2.2.2.2.2.2.2.2.2.2.2.2.2.2.2
  exact ⟨hW, ⟨Nat.zero_le _, fun c hc => absurd hc List.not_mem_nil⟩, ⟨⟨w.1, w.2.1, w.2.2⟩, Nat.zero_le _, hV.2.2.1.2.2⟩, ⟨Nat.zero_le _, Nat.le_refl _, fun u hu => absurd hu List.not_mem_nil⟩, ⟨Nat.zero_le _, fun s hs => absurd hs List.not_mem_nil⟩, ⟨Nat.zero_le _, fun s hs => absurd hs List.not_mem_nil⟩, trivial, trivial⟩
theorem VS_F {k : Nat} {a : St} (hV : VS k a) (P : Int32) : VS (k + 1) (aFl a P) := by
  obtain ⟨h1, h2, h3, h4, h5, h6, h7, h8⟩ := VS_mono (Nat.le_succ k) hV
  exact ⟨h1, ⟨Nat.zero_le _, fun c hc => absurd hc List.not_mem_nil⟩, h3, h4, h5, h6, h7, h8⟩
theorem okC {k : Nat} {a : St} {h : Hp} (hn : (sT a).length ≤ 64) (hC : IC k a h) (N : Nat) (hN : 2000 < N) {g1 : Hp} (hr : K_Reader_readText N (rs0 h (sT a).length) = some g1) (fr : ∀ r, r ∉ ([70, 10, 11, 12] : List Nat) → g1 r = rs0 h (sT a).length r) {ρ : Rv} (hW : WF ρ) (hR : RC ρ g1) (h6 : g1 70 6 = nI 0) (h7 : g1 70 7 = -1) : ∃ g, K_C_river N h = some (nI (rW ρ * rH ρ), g) ∧ IC (k + 1) (aNw a ρ) g ∧ g 31 = h 31 ∧ g 32 = h 32 := by
  obtain ⟨c1, c2, c3, c4, c5, c6, c7, c8, c9, c10, c11, c12⟩ := hC
  have n : ∀ r, r ∉ ([0, 70, 10, 11, 12, 80, 81, 82] : List Nat) → mvC g1 r = h r := fun r hr => mv_ne fr hr
  have RG : RC ρ (mvC g1) := by
    unfold mvC
    exact RC_of (hset_ne _ _ _ (by decide)) (hset_ne _ _ _ (by decide)) (hset_ne _ _ _ (by decide)) (RC_of (hset_ne _ _ _ (by decide)) (hset_ne _ _ _ (by decide)) (hset_ne _ _ _ (by decide)) hR)
  obtain ⟨g, z1, z2, ⟨z3, z4, z5⟩, ⟨z6, z7⟩, ⟨z8, z9⟩, ⟨z10, z11⟩, z12, ⟨z13, z14⟩, z15, z16⟩ := goOnToK hW N hN RG
  have em : mx lC g (mvC g1) = g := mx_eq (fun r hr => z16 r (fun q => hr ((by decide : ∀ r ∈ ([15, 16, 17, 21, 22, 30, 33, 35, 40, 45, 55, 60] : List Nat), r ∈ lC) r q)))
  refine ⟨g, ?_, ⟨⟨?_, fun j hj => absurd hj (Nat.not_lt_zero _)⟩, ?_, z2, ⟨z3, z4, ?_⟩, ?_, ⟨z10, fun j hj => absurd hj (Nat.not_lt_zero _)⟩, ⟨z11, fun j hj => absurd hj (Nat.not_lt_zero _)⟩, z6, z7, .inl z12, ⟨?_, .inl z14⟩, .inl z15⟩, ?_, ?_⟩
  · rw [runC hn c1.1 N hr fr, if_pos (show g1 70 6 = 0 from h6), z1, bd_s, em, nm_s, z2.1.1, z2.1.2.1, nI_mul]
  · rw [z16 0 (by decide)]
    unfold mvC
    rw [hset_at, upd_ne _ _ (by decide), hset_at, upd_at]
    rfl
  · show g 0 2 = -1
    rw [z16 0 (by decide)]
    unfold mvC
    rw [hset_at, upd_at, h7]
  · show g 30 2 = nI (sB a).2.2
    rw [z5, n 30 (by decide)]
    exact c4.2.2
  · obtain ⟨nx, d1, d2, d3⟩ := c5
    exact ⟨nx, d1, by rw [z8, n 35 (by decide)]; exact d2, z9, fun j hj => absurd hj (Nat.not_lt_zero _)⟩
  · obtain ⟨⟨Q, d1, d2, d3⟩, _⟩ := c11
    exact ⟨Q, by omega, by rw [z13, n 45 (by decide)]; exact d2, fun m hm => by rw [z16 48 (by decide), n 48 (by decide)]; exact d3 m hm⟩
  · rw [z16 31 (by decide), n 31 (by decide)]
  · rw [z16 32 (by decide), n 32 (by decide)]
theorem badC {k : Nat} {a : St} {h : Hp} (hn : (sT a).length ≤ 64) (hC : IC k a h) (N : Nat) {g1 : Hp} (hr : K_Reader_readText N (rs0 h (sT a).length) = some g1) (fr : ∀ r, r ∉ ([70, 10, 11, 12] : List Nat) → g1 r = rs0 h (sT a).length r) {F : Nat} {P : Int32} (hF : 1 ≤ F ∧ F ≤ 4) (h6 : g1 70 6 = nI F) (h7 : g1 70 7 = P) : ∃ g, K_C_river N h = some (-10 - nI F, g) ∧ IC (k + 1) (aFl a P) g ∧ g 31 = h 31 ∧ g 32 = h 32 := by
  have n : ∀ r, r ∉ ([0, 70, 10, 11, 12, 80, 81, 82] : List Nat) → mvC g1 r = h r := fun r hr => mv_ne fr hr
  have b : ∀ r, r ∉ ([0, 70, 80, 81, 82] : List Nat) → hb8 (mvC g1) r = h r := fun r hr => by
    have g80 : ∀ q, q ∈ ([80, 81, 82] : List Nat) → mvC g1 q = hk8 h q := fun q hq => by
      have m : ∀ L : List Nat, (∀ x ∈ L, x ∉ ([80, 81, 82] : List Nat)) → q ∉ L := fun L hL z => hL q z hq
      unfold mvC
      rw [hset_ne _ _ _ (ne_of_nm (m [0] (by decide)) (by decide)), hset_ne _ _ _ (ne_of_nm (m [0] (by decide)) (by decide)), fr q (m _ (by decide)), rs0_f.2.2.2.2.2.2 q (m _ (by decide))]
    have k80 : hk8 h 80 = h 10 ∧ hk8 h 81 = h 11 ∧ hk8 h 82 = h 12 := ⟨rfl, rfl, rfl⟩
    unfold hb8
    by_cases d12 : r = 12
    · subst d12
      have := (g80 82 (by decide)).trans k80.2.2
      rw [show hrow (hrow (hrow (mvC g1) 10 (mvC g1 80)) 11 (mvC g1 81)) 12 (mvC g1 82) 12 = mvC g1 82 from rfl, this]
    · rw [hrow_ne _ _ d12]
      by_cases d11 : r = 11
      · subst d11
        rw [show hrow (hrow (mvC g1) 10 (mvC g1 80)) 11 (mvC g1 81) 11 = mvC g1 81 from rfl, g80 81 (by decide), k80.2.1]
      · rw [hrow_ne _ _ d11]
        by_cases d10 : r = 10
        · subst d10
          rw [show hrow (mvC g1) 10 (mvC g1 80) 10 = mvC g1 80 from rfl, g80 80 (by decide), k80.1]
        · rw [hrow_ne _ _ d10]
          refine n r (fun z => ?_)
          simp only [List.mem_cons, List.not_mem_nil, or_false] at z hr
          omega
  have b0 : hb8 (mvC g1) 0 = mvC g1 0 := by
    unfold hb8
    rw [hrow_ne _ _ (by decide), hrow_ne _ _ (by decide), hrow_ne _ _ (by decide)]
  obtain ⟨h1, h2, h3, h4, h5, h6', h7', h8, h9, h10, h11, h12⟩ := hC
  refine ⟨hb8 (mvC g1), ?_, ⟨⟨?_, fun j hj => absurd hj (Nat.not_lt_zero _)⟩, ?_, cR_of (fun r hr => b r (fun z => by revert hr z; revert r; decide)) h3, cB_of (b _ (by decide)) h4, cL_of (b _ (by decide)) (b _ (by decide)) h5, cN_of (by rw [b 60 (by decide)]) (b _ (by decide)) h6', cE_of (by rw [b 60 (by decide)]) (b _ (by decide)) (b _ (by decide)) h7', cI_of (by rw [b 33 (by decide)]) (b _ (by decide)) h8, cI_of (by rw [b 33 (by decide)]) (b _ (by decide)) h9, MS_of (b _ (by decide)) (b _ (by decide)) h10, MC_of (Nat.le_succ k) (b _ (by decide)) (b _ (by decide)) h11, MG_of (b _ (by decide)) h12⟩, b 31 (by decide), b 32 (by decide)⟩
  · rw [runC hn h1.1 N hr fr, if_neg (show ¬ g1 70 6 = 0 from fun z => by rw [h6] at z; have := (nI_eq_iff (b := 0) (by omega) (by omega)).mp z; omega), h6]
  · rw [b0]
    unfold mvC
    rw [hset_at, upd_ne _ _ (by decide), hset_at, upd_at]
    rfl
  · show hb8 (mvC g1) 0 2 = P
    rw [b0]
    unfold mvC
    rw [hset_at, upd_at, h7]

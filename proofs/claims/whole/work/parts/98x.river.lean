/-! river: the reference, and both -/
theorem badM {k : Nat} {a : St} {m f : Hp} (hV : VS k a) (hM : IM a m) {g0 g1 : Hp} (fr : TFr g0 m g1 f) {F : Nat} {P : Int32} (hF : 1 ≤ F ∧ F ≤ 4) (h10 : f 100 10 = nI F) (h11 : f 100 11 = P) (N : Nat) : ∃ f', K_M_river_J89 N f = some (-10 - nI F, f') ∧ IM (aFl a P) f' := by
  refine ⟨hset f 100 7 0, ?_, ?_⟩
  · unfold K_M_river_J89
    rw [nm_s, hset_at, upd_ne _ _ (by decide), h10, if_neg (show ¬ nI F ≤ 0 from fun z => by have := (nI_le_iff (b := 0) (by omega) (by omega)).mp z; omega)]
  · obtain ⟨_, f2, f3, f4, f5, f6⟩ := fr
    obtain ⟨⟨r0, r1, r2, r3, r4, r5, r6, r7, r8, r9, r10, r11⟩, c2, c3, c4, c5, c6, c7, c8, c9, c10⟩ := hM
    have w : ∀ r, r ≠ 100 → (hset f 100 7 0) r = f r := fun r hr => hset_ne _ _ _ hr
    have n : ∀ r, r ∉ ([100, 103, 104, 105] : List Nat) → (hset f 100 7 0) r = m r := fun r hr => (hset_ne _ _ _ (ne_of_nm hr (by decide))).trans (f2 r hr)
    have x : ∀ j, j ∉ ([5, 7, 8, 9, 10, 11] : List Nat) → (hset f 100 7 0) 100 j = m 100 j := fun j hj => by
      rw [hset_at, upd_ne _ _ (ne_of_nm hj (by decide))]
      exact f3 j (fun z => hj ((by decide : ∀ r ∈ ([5, 8, 9, 10, 11] : List Nat), r ∈ ([5, 7, 8, 9, 10, 11] : List Nat)) j z))
    have q4 : ∀ j, j < 12 → (hset f 100 7 0) 104 j = m 104 j := fun j hj => by rw [w 104 (by decide)]; exact f5 j hj
    refine ⟨⟨(q4 _ (by decide)).trans r0, (q4 _ (by decide)).trans r1, (q4 _ (by decide)).trans r2, (q4 _ (by decide)).trans r3, (q4 _ (by decide)).trans r4, (q4 _ (by decide)).trans r5, (q4 _ (by decide)).trans r6, (q4 _ (by decide)).trans r7, (q4 _ (by decide)).trans r8, (q4 _ (by decide)).trans r9, fun s hs => ?_, fun j hj => ?_⟩, (x 12 (by decide)).trans c2, ⟨?_, fun j hj => absurd hj (Nat.not_lt_zero _)⟩, ?_, ?_, ?_, ?_, ?_, ?_, ?_⟩
    · have b1 := (cM_b hV.1 hs).1
      have b2 := WH_b hV.1
      show (hset f 100 7 0) 103 (cM (sR a) s) = _
      rw [w 103 (by decide), f4 _ (by omega)]
      exact r10 s hs
    · rw [w 105 (by decide), f6 j hj]; exact r11 j hj
    · rw [hset_at, upd_at]; rfl
    · show (hset f 100 7 0) 100 11 = P
      rw [hset_at, upd_ne _ _ (by decide)]; exact h11
    · unfold mB at c5 ⊢
      rw [n 101 (by decide)]; exact c5
    · unfold mL at c6 ⊢
      rw [x 16 (by decide), n 107 (by decide)]; exact c6
    · unfold mN at c7 ⊢
      rw [x 26 (by decide), n 112 (by decide)]; exact c7
    · unfold mE at c8 ⊢
      rw [x 32 (by decide), n 114 (by decide), n 115 (by decide)]; exact c8
    · unfold mI mB at c9 ⊢
      rw [n 102 (by decide), n 101 (by decide)]; exact c9
    · unfold mI mB at c10 ⊢
      rw [n 102 (by decide), n 101 (by decide)]; exact c10
/-- the first open square, where the boat is not told -/
theorem firstM {ρ : Rv} (hW : WF ρ) {H : Nat → Bool} {f : Hp} (h5 : f 100 5 = HV H) (hM : RH ρ (H 2 = true) f) (h0 : H 0 = false → ∀ j, j < 8 → H j = false) (h1 : H 0 = true → rW ρ ≠ 0) (h2 : rW ρ = 0 ∨ H 0 = true) (N : Nat) (hN : 200 < N) : ∃ f', loopN (fun z_ : Int32 × Hp => K_M_river_L118 N z_.1 z_.2) N (nI (rW ρ * rH ρ) - 1, f) = some f' ∧ (∀ r, r ≠ 104 → f' r = f r) ∧ (∀ j, j ≠ 18 → f' 104 j = f 104 j) ∧ f' 104 18 = nI (cM ρ (rS ρ / 8)) ∧ f' 104 19 = nI (rS ρ % 8) := by
  have whb := WH_b hW
  obtain ⟨n, rfl⟩ : ∃ n, N = n + 1 := ⟨N - 1, by omega⟩
  by_cases w0 : rW ρ = 0
  · have s0 : rS ρ = 0 := hW.2.2.2.2.2.2.2.2.2.2.2.2.2.2.2.2.1 w0
    have hb : H 2 ≠ true := fun z => by
      cases y : H 0
      · rw [h0 y 2 (by decide)] at z; exact absurd z (by decide)
      · exact h1 y w0
    obtain ⟨⟨e1, e2⟩, _⟩ := hM.2.2.2.2.2.2 hb
    refine ⟨f, loopN_t n ?_, fun _ _ => rfl, fun _ _ => rfl, ?_, ?_⟩
    · show K_M_river_L118 (n + 1) (nI (rW ρ * rH ρ) - 1) f = _
      unfold K_M_river_L118
      rw [w0, Nat.zero_mul, if_pos (by decide)]
    · rw [e1, s0]
      unfold cM
      rw [w0, Nat.zero_mul]
      rfl
    · rw [e2, s0]; rfl
  · have okS8 : okS ρ (rS ρ / 8) := hW.2.2.2.2.2.2.2.2.2.2.2.2.2.2.2.2.2 w0
    have wh0 : rH ρ ≠ 0 := fun z => w0 (hW.2.2.1.mpr z)
    have wh1 : 1 ≤ rW ρ * rH ρ := Nat.mul_le_mul (by omega : 1 ≤ rW ρ) (by omega : 1 ≤ rH ρ)
    by_cases hb : H 2 = true
    · obtain ⟨e1, e2⟩ := hM.2.2.2.2.2.1 hb
      refine ⟨f, loopN_t n ?_, fun _ _ => rfl, fun _ _ => rfl, e1, e2⟩
      show K_M_river_L118 (n + 1) (nI (rW ρ * rH ρ) - 1) f = _
      unfold K_M_river_L118 K_M_has
      rw [show nI (rW ρ * rH ρ) - 1 = nI (rW ρ * rH ρ - 1) from nI_sub (b := 1) wh1, if_neg (nI_not_neg (by omega)), h5, show (2 : Int32) = nI 2 from rfl, HV_test H (by decide), if_pos hb, if_pos rfl, bd_s, if_neg (by decide)]
    · obtain ⟨⟨e1, e2⟩, e3⟩ := hM.2.2.2.2.2.2 hb
      obtain ⟨e4, e5⟩ := e3 w0
      have irS := okS_in hW okS8
      have j0b := cM_b hW irS
      have jk : ∀ j, j < rW ρ * rH ρ → ∃ q, q ≤ 6 ∧ f 103 (48 + j) = nI q ∧ (j = cM ρ (rS ρ / 8) → q ≠ 1) ∧ (j < cM ρ (rS ρ / 8) → q = 1) := fun j hj => by
        have q1 : j % rW ρ < rW ρ := Nat.mod_lt _ (by omega)
        have q2 : j / rW ρ < rH ρ := Nat.div_lt_of_lt_mul hj
        have w8 := hW.1
        have sd : (8 * (j / rW ρ) + j % rW ρ) / 8 = j / rW ρ := by omega
        have sm : (8 * (j / rW ρ) + j % rW ρ) % 8 = j % rW ρ := by omega
        have e := hM.2.2.2.1 (8 * (j / rW ρ) + j % rW ρ) ⟨by rw [sm]; exact q1, by rw [sd]; exact q2⟩
        have ej : cM ρ (8 * (j / rW ρ) + j % rW ρ) = j := by
          unfold cM
          rw [sd, sm, Nat.div_add_mod]
        rw [ej] at e
        refine ⟨_, hW.2.2.2.2.2.2.2.2.2.2.2.2.1 _, e, fun z => ?_, fun z => ?_⟩
        · have : 8 * (j / rW ρ) + j % rW ρ = rS ρ / 8 := by
            have a1 := j0b.2.1
            have a2 := j0b.2.2
            rw [← z] at a1 a2
            omega
          rw [this]
          exact okS8.2
        · refine e5 _ ?_
          by_cases c : 8 * (j / rW ρ) + j % rW ρ < rS ρ / 8
          · exact c
          · exfalso
            have a1 : rS ρ / 8 / 8 ≤ j / rW ρ := by omega
            unfold cM at z
            have a3 := Nat.div_add_mod j (rW ρ)
            by_cases y : rS ρ / 8 / 8 = j / rW ρ
            · rw [y] at z
              omega
            · have a4 : rW ρ * (rS ρ / 8 / 8 + 1) ≤ rW ρ * (j / rW ρ) := Nat.mul_le_mul_left _ (by omega)
              rw [Nat.mul_succ] at a4
              have a5 := irS.1
              omega
      generalize cM ρ (rS ρ / 8) = j0 at j0b jk ⊢
      have j0l := j0b.1
      generalize rW ρ * rH ρ = e at whb wh1 jk j0l ⊢
      have key : ∀ i, i ≤ e → ∀ fuel g, i < fuel → (∀ r, r ≠ 104 → g r = f r) → (∀ j, j ≠ 18 → g 104 j = f 104 j) → (i ≤ j0 → g 104 18 = nI j0) → ∃ f', loopN (fun z_ : Int32 × Hp => K_M_river_L118 (n + 1) z_.1 z_.2) fuel (nI i - 1, g) = some f' ∧ (∀ r, r ≠ 104 → f' r = f r) ∧ (∀ j, j ≠ 18 → f' 104 j = f 104 j) ∧ f' 104 18 = nI j0 := by
        intro i
        induction i with
        | zero =>
          intro _ fuel g hf g1 g2 g3
          obtain ⟨m, rfl⟩ : ∃ m, fuel = m + 1 := ⟨fuel - 1, by omega⟩
          refine ⟨g, loopN_t m ?_, g1, g2, g3 (Nat.zero_le _)⟩
          show K_M_river_L118 (n + 1) (nI 0 - 1) g = _
          unfold K_M_river_L118
          rw [if_pos (by decide)]
        | succ i ih =>
          intro hi fuel g hf g1 g2 g3
          obtain ⟨m, rfl⟩ : ∃ m, fuel = m + 1 := ⟨fuel - 1, by omega⟩
          obtain ⟨q, q6, k1, k2, k3⟩ := jk i (by omega)
          have es : nI (i + 1) - 1 = nI i := nI_sub (a := i + 1) (b := 1) (by omega)
          have j163 : ∀ v : Int32, K_M_river_J163 (n + 1) (nI i) 18 v g = some (.inl (nI i - 1, hset g 104 18 v)) := fun v => by
            unfold K_M_river_J163
            rw [sA_lit (x := 18) (i := 18) rfl (by decide) (by decide), show Int32.toNatClampNeg 18 = 18 from rfl, nm_s, show nI i + -1 = nI i - 1 by rw [Int32.sub_eq_add_neg], nm_s]
          have body : K_M_river_L118 (n + 1) (nI (i + 1) - 1) g = some (.inl (nI i - 1, hset g 104 18 (if q = 1 then g 104 18 else nI i))) := by
            unfold K_M_river_L118 K_M_has
            rw [es, if_neg (nI_not_neg (by omega)), g1 100 (by decide), h5, show (2 : Int32) = nI 2 from rfl, HV_test H (by decide), if_neg hb, if_neg (by decide), bd_s, if_pos rfl, show (48 : Int32) + nI i = nI (48 + i) from nI_add 48 i, gA_nI (by omega) (by omega), g1 103 (by decide), k1]
            by_cases c : q = 1
            · rw [if_pos (show nI q = 1 by rw [c]; rfl), gA_lit (x := 18) (i := 18) rfl (by decide) (by decide), j163, if_pos c]
            · rw [if_neg (show ¬ nI q = 1 from fun z => c ((nI_eq_iff (b := 1) (by omega) (by omega)).mp z)), j163, if_neg c]
          have st : loopN (fun z_ : Int32 × Hp => K_M_river_L118 (n + 1) z_.1 z_.2) (m + 1) (nI (i + 1) - 1, g) = loopN (fun z_ : Int32 × Hp => K_M_river_L118 (n + 1) z_.1 z_.2) m (nI i - 1, hset g 104 18 (if q = 1 then g 104 18 else nI i)) := loopN_s m body
          rw [st]
          refine ih (by omega) m _ (by omega) (fun r hr => (hset_ne _ _ _ hr).trans (g1 r hr)) (fun j hj => by rw [hset_at, upd_ne _ _ hj]; exact g2 j hj) (fun hj => ?_)
          rw [hset_at, upd_at]
          by_cases c : i = j0
          · rw [if_neg (k2 c), c]
          · rw [if_pos (k3 (by omega))]
            exact g3 (by omega)
      obtain ⟨f', l1, l2, l3, l4⟩ := key e (Nat.le_refl _) (n + 1) f (by omega) (fun _ _ => rfl) (fun _ _ => rfl) (fun z => by omega)
      exact ⟨f', l1, l2, l3, l4, by rw [l3 19 (by decide), e2, e4]; rfl⟩

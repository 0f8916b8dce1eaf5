/-! the search: the whole look -/
theorem spreadK {ρ : Rv} (hW : WF ρ) (N : Nat) (hN : 200 < N) {h g : Hp} {kind m0 : Nat} (ho : okM ρ m0) (hk : kind ≤ 10) (hc : RC ρ h) (hl : RL ρ h) (hr : RK ρ (knd kind) h) {key : Int32} {d F U A x : Nat} (hd : 1 ≤ d ∧ d ≤ 60) (hL : LI ρ kind m0 key h d F U A 0 g) (hFA : F ≤ A) (hAU : A < U) (hx : g 42 A = nI x) (ox : okM ρ x) :
    ∃ g', K_Search_spread N (nI x) (nI (prK kind 0)) (nI (if kind = 10 then 4 else 1)) g = some g' ∧ (LI ρ kind m0 key h d F U (A + 1) 0 g' ∨ FI ρ kind m0 key h d g') := by
  have pb : ∀ J, J ≤ cnK kind → prK kind J ≤ 19 := by
    intro J hJ
    unfold cnK at hJ
    unfold prK
    by_cases c : kind = 10
    · rw [if_pos c] at hJ ⊢; omega
    · rw [if_neg c] at hJ ⊢; omega
  obtain ⟨t, l1, l2⟩ := loopN_inv (fun z_ : Int32 × Hp => K_Search_spread_L4 N (nI x) (nI (if kind = 10 then 4 else 1)) z_.1 z_.2) (fun s => ∃ J f, s = (nI (prK kind J), f) ∧ J ≤ cnK kind ∧ LI ρ kind m0 key h d F U A J f ∧ f 42 A = nI x) (fun s => 20 - s.1.toNatClampNeg) (fun t => (∃ g', t = .inr g' ∧ LI ρ kind m0 key h d F U A (cnK kind) g') ∨ (∃ g', t = .inl g' ∧ FI ρ kind m0 key h d g')) (fun s hI => by
      obtain ⟨J, f, e, q1, q2, q3⟩ := hI
      subst e
      have b1 := pb J q1
      by_cases c : J < cnK kind
      · rcases spreadStep hW N ho hk hc hl hr hd q2 hFA hAU c q3 ox with ⟨g', z1, z2, z3⟩ | ⟨g', z1, z2⟩
        · left
          refine ⟨_, z1, ⟨J + 1, g', rfl, c, z2, z3⟩, ?_⟩
          have b2 := pb (J + 1) c
          have b3 : prK kind J < prK kind (J + 1) := by unfold prK; split <;> omega
          show 20 - (nI (prK kind (J + 1))).toNatClampNeg < 20 - (nI (prK kind J)).toNatClampNeg
          rw [nI_cl (by omega), nI_cl (by omega)]
          omega
        · right
          exact ⟨_, z1, .inr ⟨g', rfl, z2⟩⟩
      · right
        have eJ : J = cnK kind := by omega
        subst eJ
        have b4 : 16 ≤ prK kind (cnK kind) := by
          unfold prK cnK
          by_cases c : kind = 10
          · rw [if_pos c, if_pos c]; omega
          · rw [if_neg c, if_neg c]; omega
        refine ⟨.inr f, ?_, .inl ⟨f, rfl, q2⟩⟩
        show K_Search_spread_L4 N (nI x) (nI (if kind = 10 then 4 else 1)) (nI (prK kind (cnK kind))) f = _
        unfold K_Search_spread_L4
        rw [if_pos (show (16 : Int32) ≤ nI (prK kind (cnK kind)) from (nI_le_iff (a := 16) (by omega) (by omega)).mpr b4)]) N (nI (prK kind 0), g) ⟨0, g, rfl, Nat.zero_le _, hL, hx⟩ (by show 20 - _ < N; omega)
  unfold K_Search_spread
  rw [l1, bd_s]
  rcases l2 with ⟨g', e, z⟩ | ⟨g', e, z⟩
  · subst e
    refine ⟨g', rfl, .inl ?_⟩
    obtain ⟨Q, qu, hB, hFU, hUQ, hfr, h4, hS1, hS2, hS3, hT⟩ := z
    refine ⟨Q, qu, hB, hFU, hUQ, hfr, h4, hS1, hS2, hS3, fun hf => ?_⟩
    obtain ⟨t1, t2, q, q1, q2, q3, q4, q5, q6⟩ := hT hf
    refine ⟨t1, t2, q, q1, q2, q3, q4, fun z => q5 (by omega), fun z => q6 ?_⟩
    by_cases c : A = q
    · right
      refine ⟨c, ?_⟩
      have r := pmN_rch (fD_at (ρ := ρ) (kind := kind) (m := m0) (by omega)) (d - 1) (by omega)
      rw [show fD ρ kind m0 - (d - 1) = (fD ρ kind m0 - d) + 1 by omega, ← q3] at r
      exact (fj_ok r).1
    · left; omega
  · subst e
    exact ⟨g', rfl, .inr z⟩
/-- a layer -/
theorem layerK {ρ : Rv} (hW : WF ρ) (N : Nat) (hN : 5000 < N) {h g : Hp} {kind m0 : Nat} (ho : okM ρ m0) (hk : kind ≤ 10) (hc : RC ρ h) (hl : RL ρ h) (hr : RK ρ (knd kind) h) {key : Int32} {d F U : Nat} (hd : 1 ≤ d ∧ d ≤ 60) (hFU : F ≤ U) (hU : U ≤ 3456) (hL : LI ρ kind m0 key h d F U F 0 g) (x6 : Int32) :
    ∃ g', loopN (fun z_ : Int32 × Hp => K_Search_spreadAll_L31 N (nI (prK kind 0)) (nI (if kind = 10 then 4 else 1)) x6 (nI U) z_.1 z_.2) N (nI F, g) = some g' ∧ (LI ρ kind m0 key h d F U U 0 g' ∨ FI ρ kind m0 key h d g') := by
  obtain ⟨t, l1, l2⟩ := loopN_inv (fun z_ : Int32 × Hp => K_Search_spreadAll_L31 N (nI (prK kind 0)) (nI (if kind = 10 then 4 else 1)) x6 (nI U) z_.1 z_.2) (fun s => ∃ A f, s = (nI A, f) ∧ F ≤ A ∧ A ≤ U ∧ (LI ρ kind m0 key h d F U A 0 f ∨ FI ρ kind m0 key h d f)) (fun s => 4000 - s.1.toNatClampNeg) (fun t => LI ρ kind m0 key h d F U U 0 t ∨ FI ρ kind m0 key h d t) (fun s hI => by
      obtain ⟨A, f, e, q1, q2, q3⟩ := hI
      subst e
      show (∃ s', K_Search_spreadAll_L31 N (nI (prK kind 0)) (nI (if kind = 10 then 4 else 1)) x6 (nI U) (nI A) f = some (.inl s') ∧ _) ∨ (∃ t, K_Search_spreadAll_L31 N (nI (prK kind 0)) (nI (if kind = 10 then 4 else 1)) x6 (nI U) (nI A) f = some (.inr t) ∧ _)
      unfold K_Search_spreadAll_L31
      by_cases c : U ≤ A
      · right
        have eA : A = U := by omega
        subst eA
        exact ⟨f, by rw [if_pos ((nI_le_iff (by omega) (by omega)).mpr c)], q3⟩
      · rw [if_neg (fun q => c ((nI_le_iff (by omega) (by omega)).mp q)), if_neg (show ¬ (3456 : Int32) ≤ nI A from fun q => by have := (nI_le_iff (a := 3456) (by omega) (by omega)).mp q; omega)]
        rcases q3 with q3 | q3
        · left
          have q3' := q3
          obtain ⟨Q, qu, hB, _, hUQ, _, h4, _⟩ := q3'
          have qA := hB.2.2.1 A (by omega)
          rw [h4, if_pos rfl, gA_nI (by omega) (by omega), qA.1]
          obtain ⟨g', z1, z2⟩ := spreadK hW N (by omega) ho hk hc hl hr hd q3 q1 (by omega) qA.1 qA.2
          refine ⟨(nI (A + 1), g'), ?_, ⟨A + 1, g', rfl, by omega, by omega, z2⟩, ?_⟩
          · rw [z1, bd_s, show nI A + 1 = nI (A + 1) from nI_add A 1, nm_s]
          · show 4000 - (nI (A + 1)).toNatClampNeg < 4000 - (nI A).toNatClampNeg
            rw [nI_cl (by omega), nI_cl (by omega)]
            omega
        · right
          have xl := okM_lt hW (pmN_ok hW (kind := kind) (n := fD ρ kind m0) ho (fD ρ kind m0))
          refine ⟨f, ?_, .inr q3⟩
          rw [q3.2.2.2.1, if_neg (neM1 (by omega))]) N (nI F, g) ⟨F, g, rfl, Nat.le_refl _, hFU, .inl hL⟩ (by show 4000 - _ < N; omega)
  exact ⟨t, l1, l2⟩
/-- told -/
def TI (ρ : Rv) (kind m0 : Nat) (key : Int32) (h g : Hp) : Prop := (∀ r, r ∉ ([40, 41, 42, 43] : List Nat) → g r = h r) ∧ g 40 6 = key ∧ g 40 4 ≠ -1 ∧ fD ρ kind m0 ≤ 60 ∧ g 40 5 = nI (fD ρ kind m0) ∧ ∀ i, i < fD ρ kind m0 → g 43 i = nI ((pth ρ kind (fD ρ kind m0) m0).getD i 0)
theorem tellRowK {ρ : Rv} (hW : WF ρ) (N : Nat) (hN : 200 < N) {h g : Hp} {kind m0 : Nat} (ho : okM ρ m0) {key : Int32} (n1 : 1 ≤ fD ρ kind m0) (hF : FI ρ kind m0 key h (fD ρ kind m0) g) : ∃ g', K_Search_tellRow N (hset g 40 5 (nI (fD ρ kind m0))) = some g' ∧ TI ρ kind m0 key h g' := by
  obtain ⟨f1, -, f2, f3, f4⟩ := hF
  have xl : ∀ i, pmN ρ kind (fD ρ kind m0) m0 i < 3456 := fun i => okM_lt hW (pmN_ok hW ho i)
  have pl : ∀ i, i < fD ρ kind m0 → nxp ρ kind (fD ρ kind m0 - i - 1) (pmN ρ kind (fD ρ kind m0) m0 i) < 16 := fun i hi => by
    have r := pmN_rch (fD_at (ρ := ρ) (kind := kind) (m := m0) (by omega)) i (by omega)
    rw [show fD ρ kind m0 - i = (fD ρ kind m0 - i - 1) + 1 by omega] at r
    obtain ⟨b1, b2, -⟩ := fj_ok r
    have := (prK_in b1).2
    omega
  generalize hn : fD ρ kind m0 = n at *
  obtain ⟨t, l1, l2, l3⟩ := loopN_fx (fun z_ : Int32 × Int32 × Hp => K_Search_tellRow_L12 N z_.1 z_.2.1 z_.2.2) (fun k s => ∃ f, s = (nI (pmN ρ kind n m0 (n - k)), iI ((n : Int) - 1 - (k : Int)), f) ∧ (∀ r, r ≠ 43 → f r = (hset g 40 5 (nI n)) r) ∧ ∀ i, n - k ≤ i → i < n → f 43 i = nI ((pth ρ kind n m0).getD i 0)) n (fun t => (∀ r, r ≠ 43 → t r = (hset g 40 5 (nI n)) r) ∧ ∀ i, i < n → t 43 i = nI ((pth ρ kind n m0).getD i 0)) (fun k s hk hJ => by
      obtain ⟨f, e, e1, e2⟩ := hJ
      subst e
      have a1 := xl (n - k)
      have b1 := pl (n - k - 1) (by omega)
      have b2 := xl (n - k - 1)
      have cb : f 41 (pmN ρ kind n m0 (n - k)) = nI (16 * pmN ρ kind n m0 (n - k - 1) + nxp ρ kind (n - (n - k - 1) - 1) (pmN ρ kind n m0 (n - k - 1))) := by
        have := f4 (n - k - 1) (by omega)
        rw [show n - k - 1 + 1 = n - k by omega] at this
        rw [e1 41 (by decide), hset_ne _ _ _ (by decide)]
        exact this
      have e3 : iI ((n : Int) - 1 - (k : Int)) = nI (n - k - 1) := by rw [nI_iI]; congr 1; omega
      refine ⟨(nI (pmN ρ kind n m0 (n - (k + 1))), iI ((n : Int) - 1 - ((k + 1 : Nat) : Int)), hset f 43 (n - k - 1) (nI (nxp ρ kind (n - (n - k - 1) - 1) (pmN ρ kind n m0 (n - k - 1))))), ?_, _, rfl, fun r hr => ?_, fun i hi1 hi2 => ?_⟩
      · show K_Search_tellRow_L12 N (nI _) (iI _) f = _
        unfold K_Search_tellRow_L12 K_Search_tellRow_J48
        rw [e3, if_neg (nI_not_neg (by omega)), if_neg (show ¬ (60 : Int32) ≤ nI (n - k - 1) from fun q => by have := (nI_le_iff (a := 60) (by omega) (by omega)).mp q; omega), if_neg (nI_not_neg (by omega)), if_neg (show ¬ (3456 : Int32) ≤ nI (pmN ρ kind n m0 (n - k)) from fun q => by have := (nI_le_iff (a := 3456) (by omega) (by omega)).mp q; omega), gA_nI (by omega) (by omega), cb, sA_nI (by omega) (by omega), nI_cl (by omega), show (16 : Int32) = nI 16 from rfl, nI_rem (by omega) (by omega) (by omega), nI_div (by omega) (by omega) (by omega), nm_s, nm_s]
        have m1 : nI (n - k - 1) + (-1) = iI ((n : Int) - 1 - ((k + 1 : Nat) : Int)) := by
          rw [nI_iI, show (-1 : Int32) = iI (-1) from by decide, iI_add]; congr 1; omega
        rw [m1, nm_s, show (16 * pmN ρ kind n m0 (n - k - 1) + nxp ρ kind (n - (n - k - 1) - 1) (pmN ρ kind n m0 (n - k - 1))) % 16 = nxp ρ kind (n - (n - k - 1) - 1) (pmN ρ kind n m0 (n - k - 1)) by omega, show (16 * pmN ρ kind n m0 (n - k - 1) + nxp ρ kind (n - (n - k - 1) - 1) (pmN ρ kind n m0 (n - k - 1))) / 16 = pmN ρ kind n m0 (n - k - 1) by omega, show n - (k + 1) = n - k - 1 by omega]
      · rw [hset_ne _ _ _ hr]; exact e1 r hr
      · rw [hset_at]
        by_cases c : i = n - k - 1
        · rw [c, upd_at, pth_get ρ kind n (n - k - 1) m0 (by omega)]
        · rw [upd_ne _ _ c]
          exact e2 i (by omega) hi2) (fun s hJ => by
      obtain ⟨f, e, e1, e2⟩ := hJ
      subst e
      refine ⟨f, ?_, e1, fun i hi => e2 i (by omega) hi⟩
      show K_Search_tellRow_L12 N (nI _) (iI _) f = _
      unfold K_Search_tellRow_L12
      rw [if_pos (show iI ((n : Int) - 1 - (n : Int)) < (0 : Int32) from (iI_lt_iff (b := 0) (by omega) (by omega) (by omega) (by omega)).mpr (by omega))]) (s0 := (nI (pmN ρ kind n m0 n), nI n - 1, hset g 40 5 (nI n))) ⟨_, by
      have : nI n - 1 = iI ((n : Int) - 1 - ((0 : Nat) : Int)) := by rw [nI_iI, show (1 : Int32) = iI 1 from rfl, iI_sub]; congr 1; omega
      rw [this]; rfl, fun _ _ => rfl, fun i hi1 hi2 => absurd hi2 (by omega)⟩ (N := N) (by omega)
  have v4 : hset g 40 5 (nI n) 40 4 = nI (pmN ρ kind n m0 n) := by rw [hset_at, upd_ne _ _ (by decide)]; exact f3
  have v5 : hset g 40 5 (nI n) 40 5 = nI n := by rw [hset_at, upd_at]
  refine ⟨t, ?_, fun r hr => ?_, ?_, ?_, by omega, ?_, ?_⟩
  · unfold K_Search_tellRow
    rw [v4, v5, nm_s, nm_s, l1, bd_s]
  · rw [l2 r (ne_of_nm hr (by decide)), hset_ne _ _ _ (ne_of_nm hr (by decide))]
    refine f2.1 r (fun q => hr ?_)
    simp only [List.mem_cons, List.not_mem_nil, or_false] at q ⊢
    omega
  · rw [l2 40 (by decide), hset_at, upd_ne _ _ (by decide)]; exact f2.2.2
  · rw [l2 40 (by decide), v4]
    have := xl n
    exact neM1 (by omega)
  · rw [l2 40 (by decide), hn]; exact v5
  · rw [hn]; exact l3
theorem spreadAllK {ρ : Rv} (hW : WF ρ) (N : Nat) (hN : 5000 < N) {h g : Hp} {kind m0 : Nat} (ho : okM ρ m0) (hk : kind ≤ 10) (hc : RC ρ h) (hl : RL ρ h) (hr : RK ρ (knd kind) h) {key : Int32} (n1 : 1 ≤ fD ρ kind m0) (hQ : g 40 3 = nI 1) (hL : LI ρ kind m0 key h 1 0 1 0 0 g) :
    ∃ g', K_Search_spreadAll N (nI (prK kind 0)) (nI (if kind = 10 then 4 else 1)) g = some g' ∧ (TI ρ kind m0 key h g' ∨ (fD ρ kind m0 = 61 ∧ (∀ r, r ∉ ([40, 41, 42, 43] : List Nat) → g' r = h r) ∧ g' 40 5 = -1 ∧ g' 40 6 = key)) := by
  have fb := fD_b ρ kind m0
  obtain ⟨t, l1, l2⟩ := loopN_inv (fun z_ : Int32 × Int32 × Hp => K_Search_spreadAll_L6 N (nI (prK kind 0)) (nI (if kind = 10 then 4 else 1)) z_.1 z_.2.1 z_.2.2) (fun s => ∃ F d f, s = (nI F, nI d, f) ∧ 1 ≤ d ∧ d ≤ 61 ∧ ((∃ U, F ≤ U ∧ U ≤ 3456 ∧ f 40 3 = nI U ∧ LI ρ kind m0 key h d F U F 0 f) ∨ TI ρ kind m0 key h f)) (fun s => 62 - s.2.1.toNatClampNeg) (fun t => TI ρ kind m0 key h t ∨ (fD ρ kind m0 = 61 ∧ (∀ r, r ∉ ([40, 41, 42, 43] : List Nat) → t r = h r) ∧ t 40 5 = -1 ∧ t 40 6 = key)) (fun s hI => by
      obtain ⟨F, d, f, e, q1, q2, q3⟩ := hI
      subst e
      show (∃ s', K_Search_spreadAll_L6 N (nI (prK kind 0)) (nI (if kind = 10 then 4 else 1)) (nI F) (nI d) f = some (.inl s') ∧ _) ∨ (∃ t, K_Search_spreadAll_L6 N (nI (prK kind 0)) (nI (if kind = 10 then 4 else 1)) (nI F) (nI d) f = some (.inr t) ∧ _)
      unfold K_Search_spreadAll_L6
      by_cases c : 60 < d
      · right
        refine ⟨f, by rw [if_pos (show (60 : Int32) < nI d from (nI_lt_iff (a := 60) (by omega) (by omega)).mpr c)], ?_⟩
        rcases q3 with ⟨U, u1, u2, u3, u4⟩ | q3
        · right
          obtain ⟨Q, qu, hB, hFU, hUQ, hfr, h4, hS1, hS2, hS3, hT⟩ := u4
          refine ⟨?_, fun r hr => hfr.1 r (fun q => hr ?_), hfr.2.1, hfr.2.2⟩
          · by_cases hf : fD ρ kind m0 ≤ 60
            · have := (hT hf).1; omega
            · omega
          · simp only [List.mem_cons, List.not_mem_nil, or_false] at q ⊢
            omega
        · exact .inl q3
      · rw [if_neg (show ¬ (60 : Int32) < nI d from fun z => c ((nI_lt_iff (a := 60) (by omega) (by omega)).mp z))]
        rcases q3 with ⟨U, u1, u2, u3, u4⟩ | q3
        · left
          have h4 : f 40 4 = -1 := by obtain ⟨Q, qu, _, _, _, _, h4, _⟩ := u4; exact h4
          rw [h4, if_pos rfl, u3, nm_s]
          obtain ⟨g', z1, z2⟩ := layerK hW N hN ho hk hc hl hr ⟨q1, by omega⟩ u1 u2 u4 (nI d)
          rw [z1, bd_s]
          unfold K_Search_spreadAll_J78
          have me : ∀ f' : Hp, 62 - ((nI U, nI (d + 1), f') : Int32 × Int32 × Hp).2.1.toNatClampNeg < 62 - ((nI F, nI d, f) : Int32 × Int32 × Hp).2.1.toNatClampNeg := fun f' => by
            show 62 - (nI (d + 1)).toNatClampNeg < 62 - (nI d).toNatClampNeg
            rw [nI_cl (by omega), nI_cl (by omega)]
            omega
          rcases z2 with z2 | z2
          · obtain ⟨Q, qu, hB, hFU, hUQ, hfr, h4', hS1, hS2, hS3, hT⟩ := z2
            refine ⟨(nI U, nI (d + 1), g'), ?_, ⟨U, d + 1, g', rfl, by omega, by omega, .inl ⟨Q, hUQ, hB.2.1, hB.1, Q, qu, hB, hUQ, Nat.le_refl _, hfr, h4', fun j hj => ?_, fun j hj1 hj2 => hS3 j hj1 hj2, fun j hj1 hj2 => by omega, fun hf => ?_⟩⟩, me g'⟩
            · rw [h4', if_pos rfl, show nI d + 1 = nI (d + 1) from nI_add d 1, nm_s]
            · by_cases c2 : j < U
              · obtain ⟨i, i1, i2⟩ := hS1 j c2
                exact ⟨i, by omega, i2⟩
              · exact ⟨d, Nat.le_refl _, hS3 j (by omega) hj⟩
            · obtain ⟨t1, t2, q, p1, p2, p3, p4, p5, p6⟩ := hT hf
              obtain ⟨a1, q', b1, b2, b3, b4, b5⟩ := p6 (.inl p2)
              refine ⟨by omega, fun i hi => ?_, q', b1, b2, ?_, fun j hj1 hj2 => ?_, fun _ j hj1 hj2 => by omega, fun z => ?_⟩
              · by_cases c3 : i + 1 < d
                · exact t2 i c3
                · have e1 : i = d - 1 := by omega
                  subst e1
                  rw [show d - 1 + 1 = d by omega, show fD ρ kind m0 - (d - 1) - 1 = fD ρ kind m0 - d by omega]
                  exact b5
              · rw [show d + 1 - 1 = d by omega]; exact b3
              · have := b4 j hj1 hj2
                rw [show fD ρ kind m0 - (d + 1) + 1 = fD ρ kind m0 - d by omega]
                exact this
              · exfalso
                rcases z with z | ⟨z, z2⟩
                · omega
                · omega
          · have ed := z2.2.1
            have xl := okM_lt hW (pmN_ok hW (kind := kind) (n := fD ρ kind m0) ho (fD ρ kind m0))
            rw [ed] at z2
            obtain ⟨g2, y1, y2⟩ := tellRowK hW N (by omega) ho n1 z2
            refine ⟨(nI U, nI (d + 1), g2), ?_, ⟨U, d + 1, g2, rfl, by omega, by omega, .inr y2⟩, me g2⟩
            rw [z2.2.2.2.1, if_neg (neM1 (by omega)), ed, nm_s, y1, bd_s, show nI (fD ρ kind m0) + 1 = nI (fD ρ kind m0 + 1) from nI_add _ 1, nm_s]
        · right
          exact ⟨f, by rw [if_neg q3.2.2.1], .inl q3⟩) N (0, 1, g) ⟨0, 1, g, rfl, by omega, by omega, .inl ⟨1, by omega, by omega, hQ, hL⟩⟩ (by show 62 - _ < N; omega)
  refine ⟨t, ?_, l2⟩
  unfold K_Search_spreadAll
  rw [l1, bd_s]
theorem dst_of {ρ : Rv} {kind m : Nat} (h : fD ρ kind m ≤ 60) : dst ρ kind (fD ρ kind m) m := ⟨fD_at (by omega), fun _ hj => fD_lt hj⟩
theorem searchK {ρ : Rv} (hW : WF ρ) (N : Nat) (hN : 5000 < N) {h : Hp} {kind m0 : Nat} (ho : okM ρ m0) (hk : kind ≤ 10) (hc : RC ρ h) (hl : RL ρ h) (hr : RK ρ (knd kind) h) (hS : MS ρ h) : ∃ h1, K_Search_look N (nI m0) (nI kind) h = some h1 ∧ (∀ r, r ∉ ([40, 41, 42, 43] : List Nat) → h1 r = h r) ∧ h1 40 6 = nI (m0 * 11 + kind) ∧ SRes ρ kind m0 h1 := by
  have ml := okM_lt hW ho
  unfold K_Search_look
  rw [show (11 : Int32) = nI 11 from rfl, nI_mul, nI_add, nm_s]
  by_cases c0 : nI (m0 * 11 + kind) = h 40 6
  · rw [if_pos c0]
    refine ⟨h, rfl, fun _ _ => rfl, c0.symm, ?_⟩
    rcases hS with q | ⟨m, kind', q1, q2, q3, q4⟩
    · rw [q] at c0
      exact absurd c0 (neM1 (by omega))
    · have ml2 := okM_lt hW q1
      rw [q3] at c0
      have := (nI_eq_iff (by omega) (by omega)).mp c0
      have e1 : m0 = m := by omega
      have e2 : kind = kind' := by omega
      subst e1 e2
      exact q4
  · rw [if_neg c0, nm_s, nm_s, nm_s]
    have o : ∀ r, r ≠ 40 → hset (hset (hset h 40 6 (nI (m0 * 11 + kind))) 40 5 (-1)) 40 4 (-1) r = h r := fun r n => by rw [hset_ne _ _ _ n, hset_ne _ _ _ n, hset_ne _ _ _ n]
    have s6 : hset (hset (hset h 40 6 (nI (m0 * 11 + kind))) 40 5 (-1)) 40 4 (-1) 40 6 = nI (m0 * 11 + kind) := by rw [hset_at, upd_ne _ _ (by decide), hset_at, upd_ne _ _ (by decide), hset_at, upd_at]
    have s5 : hset (hset (hset h 40 6 (nI (m0 * 11 + kind))) 40 5 (-1)) 40 4 (-1) 40 5 = -1 := by rw [hset_at, upd_ne _ _ (by decide), hset_at, upd_at]
    have s4 : hset (hset (hset h 40 6 (nI (m0 * 11 + kind))) 40 5 (-1)) 40 4 (-1) 40 4 = -1 := by rw [hset_at, upd_at]
    generalize hset (hset (hset h 40 6 (nI (m0 * 11 + kind))) 40 5 (-1)) 40 4 (-1) = g at o s4 s5 s6 ⊢
    have hc2 : RC ρ g := RC_of (o _ (by decide)) (o _ (by decide)) (o _ (by decide)) hc
    have g8 : g 10 8 = iI ((rG ρ : Int) - 1) := hc2.2.2.2.2.2.2.2.1
    have no : ∀ r, r ∉ ([40, 41, 42, 43] : List Nat) → g r = h r := fun r hr => o r (ne_of_nm hr (by decide))
    by_cases g0 : rG ρ = 0
    · rw [g8, g0, if_pos (by decide)]
      exact ⟨g, rfl, no, s6, .inr ⟨fun n _ => rch_no g0 kind n m0, s5⟩⟩
    · have gw := (goal_W hW g0).2
      rw [g8, if_neg (fun q => by have := (iI_eq_iff (b := -1) (by omega) (by omega) (by omega) (by omega)).mp q; omega), show (384 : Int32) = nI 384 from rfl, nI_rem (by omega) (by omega) (by omega), isGoalK hW hc2 (Nat.mod_lt _ (by omega)), bd_s]
      have z0 := fD_0 (ρ := ρ) (kind := kind) (m := m0)
      by_cases cg : isG ρ (m0 % 384) = true
      · rw [if_pos cg, if_neg (by decide), nm_s]
        refine ⟨_, rfl, fun r hr => (hset_ne _ _ _ (ne_of_nm hr (by decide))).trans (no r hr), by rw [hset_at, upd_ne _ _ (by decide)]; exact s6, .inl ⟨0, by omega, ⟨cg, fun j hj => absurd hj (Nat.not_lt_zero _)⟩, by rw [hset_at, upd_at]; rfl, fun i hi => absurd hi (Nat.not_lt_zero _)⟩⟩
      · rw [if_neg cg, if_pos rfl, nm_s, nm_s]
        have n1 : 1 ≤ fD ρ kind m0 := by
          by_cases c : fD ρ kind m0 = 0
          · exact absurd (z0.mp c) cg
          · omega
        have B0 : BQ ρ (hset (hrow g 41 (filled 3456 (g 41) (-1))) 40 3 0) 0 (fun _ => 0) := ⟨by rw [hset_at, upd_at]; rfl, by omega, fun j hj => absurd hj (Nat.not_lt_zero _), fun i j _ hj => absurd hj (Nat.not_lt_zero _), fun x hx => ⟨fun q => by
            exfalso
            rw [hset_ne _ _ _ (by decide), hrow_at] at q
            exact q (show (if x < 3456 then (-1 : Int32) else g 41 x) = -1 from if_pos hx), fun ⟨j, hj, _⟩ => absurd hj (Nat.not_lt_zero _)⟩⟩
        have f0 : ∀ f, f ≠ 3 → (hset (hrow g 41 (filled 3456 (g 41) (-1))) 40 3 0) 40 f = g 40 f := fun f hf => by rw [hset_at, upd_ne _ _ hf, hrow_ne _ _ (by decide)]
        have r0 : ∀ r, r ∉ ([40, 41, 42] : List Nat) → (hset (hrow g 41 (filled 3456 (g 41) (-1))) 40 3 0) r = h r := fun r hr => by rw [hset_ne _ _ _ (ne_of_nm hr (by decide)), hrow_ne _ _ (ne_of_nm hr (by decide))]; exact o r (ne_of_nm hr (by decide))
        generalize hset (hrow g 41 (filled 3456 (g 41) (-1))) 40 3 0 = g2 at B0 f0 r0 ⊢
        rcases reachK hW B0 ho (B := m0 * 16) (by omega) with ⟨⟨j, hj, _⟩, _⟩ | ⟨u1, g3, z1, z2, z3, z4, z5⟩
        · exact absurd hj (Nat.not_lt_zero _)
        · rw [show (16 : Int32) = nI 16 from rfl, nI_mul, z1, bd2_s]
          have fr : frS (nI (m0 * 11 + kind)) h g3 := ⟨fun r hr => (z4 r hr).trans (r0 r hr), (z5 5 (by decide)).trans ((f0 5 (by decide)).trans s5), (z5 6 (by decide)).trans ((f0 6 (by decide)).trans s6)⟩
          have L0 : LI ρ kind m0 (nI (m0 * 11 + kind)) h 1 0 1 0 0 g3 := by
            refine ⟨1, _, z2, by omega, Nat.le_refl _, fr, (z5 4 (by decide)).trans ((f0 4 (by decide)).trans s4), fun j hj => ⟨0, Nat.le_refl _, ?_⟩, fun j _ hj => ?_, fun j hj1 hj2 => by omega, fun hf => ?_⟩
            · show inS ρ kind m0 0 (if j = 0 then m0 else 0)
              rw [if_pos (by omega)]
              intro k hk
              rw [Nat.zero_add]; exact hk
            · show inS ρ kind m0 0 (if j = 0 then m0 else 0)
              rw [if_pos (by omega)]
              intro k hk
              rw [Nat.zero_add]; exact hk
            · refine ⟨n1, fun i hi => by omega, 0, by omega, by omega, rfl, fun j hj1 hj2 => by omega, fun _ j hj1 hj2 => by omega, fun z => ?_⟩
              exfalso
              rcases z with z | ⟨z, z2⟩
              · omega
              · omega
          have fin : ∀ v : Int32, v = nI (prK kind 0) → ∀ x : Int32, x = nI (if kind = 10 then 4 else 1) → ∃ h1, K_Search_look_J112 N v x g3 = some h1 ∧ (∀ r, r ∉ ([40, 41, 42, 43] : List Nat) → h1 r = h r) ∧ h1 40 6 = nI (m0 * 11 + kind) ∧ SRes ρ kind m0 h1 := by
            intro v ev x ex
            subst ev ex
            obtain ⟨g4, y1, y2⟩ := spreadAllK hW N hN ho hk hc hl hr n1 z2.1 L0
            refine ⟨g4, ?_, ?_⟩
            · unfold K_Search_look_J112
              rw [y1, bd_s]
            · rcases y2 with ⟨t1, t2, t3, t4, t5, t6⟩ | ⟨t1, t2, t3, t4⟩
              · exact ⟨t1, t2, .inl ⟨fD ρ kind m0, t4, dst_of t4, t5, t6⟩⟩
              · exact ⟨t2, t4, .inr ⟨fun n hn => fD_lt (by omega), t3⟩⟩
          unfold K_Search_look_J100
          by_cases ck : kind = 10
          · rw [if_pos (show nI kind = 10 by rw [ck]; rfl), if_pos (show nI kind = 10 by rw [ck]; rfl)]
            exact fin 3 (by unfold prK; rw [if_pos ck]; rfl) 4 (by rw [if_pos ck]; rfl)
          · have nk : ¬ nI kind = 10 := fun q => ck ((nI_eq_iff (b := 10) (by omega) (by omega)).mp q)
            rw [if_neg nk, if_neg nk]
            exact fin 0 (by unfold prK; rw [if_neg ck]; rfl) 1 (by rw [if_neg ck]; rfl)

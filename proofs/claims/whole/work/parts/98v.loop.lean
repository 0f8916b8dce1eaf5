/-! the whole text, on either side -/
theorem TFr_refl (g f : Hp) : TFr g f g f := ⟨fun _ _ => rfl, fun _ _ => rfl, fun _ _ => rfl, hfM_of rfl rfl rfl⟩
theorem textJ {tx : List Nat} (hX : okX tx) {P : Int32} (N : Nat) (hN : 200 < N) : ∀ (d : Nat) (p : Nat) (H : Nat → Bool) (ρ : Rv) (g f : Hp) (c n1 n2 : Nat), mu H ≤ d → TSt tx P p H ρ g f → d + 2 ≤ n1 → d + 2 ≤ n2 → c + d ≤ 100 → ∃ g' f', loopN (fun z_ : Int32 × Hp => K_Reader_readText_L6 N z_.1 z_.2) n1 (nI c, g) = some g' ∧ loopN (fun z_ : Hp => K_M_river_L25 N z_) n2 f = some f' ∧ TFr g f g' f' ∧ ((∃ p' H' ρ', TSt tx P p' H' ρ' g' f') ∨ FE g' f') := by
  intro d
  induction d using Nat.strongRecOn with
  | ind d ih =>
    intro p H ρ g f c n1 n2 hmu h hn1 hn2 hcd
    have n64 := hX.1
    obtain ⟨m1, rfl⟩ : ∃ m, n1 = m + 1 := ⟨n1 - 1, by omega⟩
    obtain ⟨m2, rfl⟩ : ∃ m, n2 = m + 1 := ⟨n2 - 1, by omega⟩
    have hs := h
    obtain ⟨⟨c1, c2⟩, ⟨b1, b2⟩, hW, hR, hM, h1, h2⟩ := h
    have sl := skp_le c2.1.2.2.1
    have c250 : ∀ x, x ≤ 101 → ¬ (250 : Int32) < nI x := fun x hx z => by
      have := (nI_lt_iff (a := 250) (by omega) (by omega)).mp z
      omega
    by_cases hq : skp tx p < tx.length
    · obtain ⟨g1, g2, f2, a1, a2, a3, a4, a5⟩ := clauseJ hX hs N hN hq
      have kC : K_Reader_readText_L6 N (nI c) g = some (.inl (nI (c + 1), g2)) := by
        unfold K_Reader_readText_L6
        rw [if_neg (c250 c (by omega)), c1.2.2.1, if_pos (show nI 0 = 0 from rfl), c1.2.1.1, c1.2.1.2.1, if_neg (fun z => by have := (nI_le_iff (by omega) (by omega)).mp z; omega), a1, bd_s, a2, bd_s, show nI c + 1 = nI (c + 1) from nI_add c 1, nm_s]
      have sC : loopN (fun z_ : Int32 × Hp => K_Reader_readText_L6 N z_.1 z_.2) (m1 + 1) (nI c, g) = loopN (fun z_ : Int32 × Hp => K_Reader_readText_L6 N z_.1 z_.2) m1 (nI (c + 1), g2) := loopN_s m1 kC
      have sM : loopN (fun z_ : Hp => K_M_river_L25 N z_) (m2 + 1) f = loopN (fun z_ : Hp => K_M_river_L25 N z_) m2 f2 := loopN_s m2 a3
      rw [sC, sM]
      rcases a5 with ⟨p', H', ρ', t1, t2⟩ | t
      · obtain ⟨g3, f3, u1, u2, u3, u4⟩ := ih (mu H') (by omega) p' H' ρ' g2 f2 (c + 1) m1 m2 (Nat.le_refl _) t1 (by omega) (by omega) (by omega)
        exact ⟨g3, f3, u1, u2, TFr_trans a4 u3, u4⟩
      · obtain ⟨k1, rfl⟩ : ∃ m, m1 = m + 1 := ⟨m1 - 1, by omega⟩
        obtain ⟨k2, rfl⟩ : ∃ m, m2 = m + 1 := ⟨m2 - 1, by omega⟩
        have tt := t
        obtain ⟨F, Q, t1, t2, t3, t4, t5, t6⟩ := t
        have nF0 : ¬ nI F = 0 := fun z => by have := (nI_eq_iff (b := 0) (by omega) (by omega)).mp z; omega
        refine ⟨g2, f2, loopN_t k1 ?_, loopN_t k2 ?_, a4, .inr tt⟩
        · show K_Reader_readText_L6 N (nI (c + 1)) g2 = _
          unfold K_Reader_readText_L6
          rw [if_neg (c250 (c + 1) (by omega)), t3, if_neg nF0]
        · show K_M_river_L25 N f2 = _
          unfold K_M_river_L25
          rw [t5, if_neg nF0]
    · have eq : skp tx p = tx.length := by omega
      obtain ⟨f1, a1, a2, a3⟩ := hereX hX c2 N hN
      refine ⟨g, f1, loopN_t m1 ?_, loopN_t m2 ?_, TFr_of ⟨fun _ _ => rfl, rfl⟩ (frR_M a2), .inl ⟨skp tx p, H, ρ, ⟨by rw [skp_idem c2.1.2.2.1]; exact c1, a3⟩, ⟨b1, (a2.2 5 (by decide)).trans b2⟩, hW, hR, RH_M a2 hM, h1, h2⟩⟩
      · show K_Reader_readText_L6 N (nI c) g = _
        unfold K_Reader_readText_L6
        rw [if_neg (c250 c (by omega)), c1.2.2.1, if_pos (show nI 0 = 0 from rfl), c1.2.1.1, c1.2.1.2.1, if_pos ((nI_le_iff (by omega) (by omega)).mpr (by omega))]
      · show K_M_river_L25 N f = _
        unfold K_M_river_L25
        rw [if_pos c2.2.1, a1, bd2_s]
        have : chM tx (skp tx p) < 0 := by
          unfold chM
          rw [if_neg hq]
          decide
        rw [if_pos this]
/-- the class's reader at the start -/
def rs0 (h : Hp) (n : Nat) : Hp := hset (hset (hset (hset (hset (hset (RI (hrow (hrow (hk8 h) 70 (fun _ => 0)) 10 (fun _ => 0))) 70 3 0) 70 4 0) 70 5 0) 70 6 0) 70 7 (-1)) 70 1 (nI n)
theorem readerK {h : Hp} {n : Nat} (hn : n ≤ 64) (h1 : h 0 1 = nI n) : K_Reader_init ((hrow (hk8 h) 70 (fun _ => 0)) 0 1) (hrow (hk8 h) 70 (fun _ => 0)) = some (rs0 h n) ∧ mx [70, 2, 10, 11, 12] (rs0 h n) (hrow (hk8 h) 70 (fun _ => 0)) = rs0 h n := by
  have e01 : (hrow (hk8 h) 70 (fun _ => 0)) 0 1 = nI n := by
    rw [hrow_ne _ _ (by decide)]
    unfold hk8
    rw [hrow_ne _ _ (by decide), hrow_ne _ _ (by decide), hrow_ne _ _ (by decide)]
    exact h1
  refine ⟨?_, mx_eq (fun r hr => ?_)⟩
  · unfold K_Reader_init
    rw [e01, nm_s, riverInit, bd_s, mx_eq (fun r hr => RI_ne _ hr), nm_s, nm_s, nm_s, nm_s, nm_s, nm_s, if_neg (show ¬ (250 : Int32) < nI n from fun z => by have := (nI_lt_iff (a := 250) (by omega) (by omega)).mp z; omega), nm_s]
    rfl
  · unfold rs0
    rw [hset_ne _ _ _ (ne_of_nm hr (by decide)), hset_ne _ _ _ (ne_of_nm hr (by decide)), hset_ne _ _ _ (ne_of_nm hr (by decide)), hset_ne _ _ _ (ne_of_nm hr (by decide)), hset_ne _ _ _ (ne_of_nm hr (by decide)), hset_ne _ _ _ (ne_of_nm hr (by decide)), RI_ne _ (fun z => hr (List.mem_cons_of_mem _ (List.mem_cons_of_mem _ z))), hrow_ne _ _ (ne_of_nm hr (by decide))]
theorem rs0_f {h : Hp} {n : Nat} : rs0 h n 70 1 = nI n ∧ rs0 h n 70 3 = 0 ∧ rs0 h n 70 4 = 0 ∧ rs0 h n 70 6 = 0 ∧ rs0 h n 70 7 = -1 ∧ RC rv0 (rs0 h n) ∧ (∀ r, r ∉ ([70, 10, 11, 12] : List Nat) → rs0 h n r = hk8 h r) := by
  unfold rs0
  refine ⟨by rw [hset_at, upd_at], by rw [hset_at, upd_ne _ _ (by decide), hset_at, upd_ne _ _ (by decide), hset_at, upd_ne _ _ (by decide), hset_at, upd_ne _ _ (by decide), hset_at, upd_ne _ _ (by decide), hset_at, upd_at], by rw [hset_at, upd_ne _ _ (by decide), hset_at, upd_ne _ _ (by decide), hset_at, upd_ne _ _ (by decide), hset_at, upd_ne _ _ (by decide), hset_at, upd_at], by rw [hset_at, upd_ne _ _ (by decide), hset_at, upd_ne _ _ (by decide), hset_at, upd_at], by rw [hset_at, upd_ne _ _ (by decide), hset_at, upd_at], ?_, fun r hr => ?_⟩
  · exact RC_of (hset_ne _ _ _ (by decide)) (hset_ne _ _ _ (by decide)) (hset_ne _ _ _ (by decide)) (RC_of (hset_ne _ _ _ (by decide)) (hset_ne _ _ _ (by decide)) (hset_ne _ _ _ (by decide)) (RC_of (hset_ne _ _ _ (by decide)) (hset_ne _ _ _ (by decide)) (hset_ne _ _ _ (by decide)) (RC_of (hset_ne _ _ _ (by decide)) (hset_ne _ _ _ (by decide)) (hset_ne _ _ _ (by decide)) (RC_of (hset_ne _ _ _ (by decide)) (hset_ne _ _ _ (by decide)) (hset_ne _ _ _ (by decide)) (RC_of (hset_ne _ _ _ (by decide)) (hset_ne _ _ _ (by decide)) (hset_ne _ _ _ (by decide)) (RI_RC _))))))
  · rw [hset_ne _ _ _ (ne_of_nm hr (by decide)), hset_ne _ _ _ (ne_of_nm hr (by decide)), hset_ne _ _ _ (ne_of_nm hr (by decide)), hset_ne _ _ _ (ne_of_nm hr (by decide)), hset_ne _ _ _ (ne_of_nm hr (by decide)), hset_ne _ _ _ (ne_of_nm hr (by decide)), RI_ne _ (fun z => hr (List.mem_cons_of_mem _ z)), hrow_ne _ _ (ne_of_nm hr (by decide)), hrow_ne _ _ (ne_of_nm hr (by decide))]
/-- both read the text: the reference from any heap that holds it -/
theorem bothJ {tx : List Nat} (hX : okX tx) (N : Nat) (hN : 200 < N) {h m : Hp} (hC : h 0 1 = nI tx.length ∧ ∀ j, j < tx.length → h 2 j = nI (tx.getD j 0)) (hM : m 100 7 = nI tx.length ∧ ∀ j, j < tx.length → m 106 j = nI (tx.getD j 0)) : ∃ g' f', K_Reader_readText N (rs0 h tx.length) = some g' ∧ K_M_river N m = K_M_river_J89 N f' ∧ TFr (rs0 h tx.length) m g' f' ∧ ((∃ p' H' ρ', TSt tx (-1) p' H' ρ' g' f') ∨ FE g' f') := by
  obtain ⟨z1, z2, z3, z4, z5, z6, z7⟩ := rs0_f (h := h) (n := tx.length)
  obtain ⟨t, y1, y2, y3, y4, y5, y6⟩ := tellM N hN (hset (hset (hset (hset m 100 8 0) 100 10 0) 100 11 (-1)) 100 5 0) (w := 1) (by omega)
  have e2 : ∀ j, j < tx.length → rs0 h tx.length 2 j = nI (tx.getD j 0) := fun j hj => by
    rw [z7 2 (by decide)]
    unfold hk8
    rw [hrow_ne _ _ (by decide), hrow_ne _ _ (by decide), hrow_ne _ _ (by decide)]
    exact hC.2 j hj
  have cx : cX tx 0 (-1) 0 (rs0 h tx.length) := ⟨Nat.zero_le _, ⟨z1, z2, Nat.zero_le _, e2⟩, z4, z5⟩
  have cx2 := cX_at cx (skp_le (tx := tx) (p := 0) (Nat.zero_le _)).2
  have sk := skipC hX cx.2.1 N hN
  have t100 : t 100 = (hset (hset (hset (hset m 100 8 0) 100 10 0) 100 11 (-1)) 100 5 0 : Hp) 100 := y2 100 (by decide)
  have mx0 : mX tx (-1) 0 t := by
    refine ⟨⟨?_, ?_, Nat.zero_le _, fun j hj => ?_⟩, ?_, ?_⟩
    · rw [t100, hset_at, upd_ne _ _ (by decide), hset_at, upd_ne _ _ (by decide), hset_at, upd_ne _ _ (by decide), hset_at, upd_ne _ _ (by decide)]; exact hM.1
    · rw [t100, hset_at, upd_ne _ _ (by decide), hset_at, upd_ne _ _ (by decide), hset_at, upd_ne _ _ (by decide), hset_at, upd_at]; rfl
    · rw [y2 106 (by decide), hset_ne _ _ _ (by decide), hset_ne _ _ _ (by decide), hset_ne _ _ _ (by decide), hset_ne _ _ _ (by decide)]; exact hM.2 j hj
    · rw [t100, hset_at, upd_ne _ _ (by decide), hset_at, upd_ne _ _ (by decide), hset_at, upd_at]
    · rw [t100, hset_at, upd_ne _ _ (by decide), hset_at, upd_at]
  have w : ∀ k, k < 12 → t 104 (12 + k) = tn0 k := fun k hk => y3 k hk
  have w5 : ∀ k, k < 8 → t 105 (8 + k) = nI (k % 4) := fun k hk => y5 k hk
  have st : TSt tx (-1) 0 (fun _ => false) rv0 (hset (rs0 h tx.length) 70 3 (nI (skp tx 0))) t := by
    refine ⟨⟨cx2, mx0⟩, ⟨?_, ?_⟩, rv0_W, RC_of (hset_ne _ _ _ (by decide)) (hset_ne _ _ _ (by decide)) (hset_ne _ _ _ (by decide)) z6, ?_, fun _ => ⟨rfl, fun _ _ => rfl⟩, fun z => absurd z (by decide)⟩
    · rw [hset_at, upd_ne _ _ (by decide)]; exact z3
    · rw [t100, hset_at, upd_at]; rfl
    · exact ⟨⟨w 0 (by decide), w 1 (by decide), w 2 (by decide), w 3 (by decide), w 4 (by decide), w 5 (by decide)⟩, ⟨w 8 (by decide), w 9 (by decide)⟩, ⟨w 10 (by decide), w 11 (by decide)⟩, fun s hs => absurd hs.1 (Nat.not_lt_zero _), w5, fun z => absurd z (by decide), fun _ => ⟨⟨w 6 (by decide), w 7 (by decide)⟩, fun z => absurd rfl z⟩⟩
  obtain ⟨g', f', u1, u2, u3, u4⟩ := textJ hX N hN 6 0 (fun _ => false) rv0 _ t 0 N N (by decide) st (by omega) (by omega) (by omega)
  have u1 : loopN (fun z_ : Int32 × Hp => K_Reader_readText_L6 N z_.1 z_.2) N (0, hset (rs0 h tx.length) 70 3 (nI (skp tx 0))) = some g' := u1
  refine ⟨g', f', ?_, ?_, ?_, u4⟩
  · unfold K_Reader_readText
    rw [sk, bd_s, u1, bd_s]
  · unfold K_M_river
    have y1 : K_M_tellNothing N 1 (hset (hset (hset (hset m 100 8 0) 100 10 0) 100 11 (-1)) 100 5 0) = some t := y1
    rw [nm_s, nm_s, nm_s, nm_s, y1, bd_s, u2, bd_s]
  · refine TFr_trans ⟨fun r hr => hset_ne _ _ _ (ne_of_nm hr (by decide)), fun r hr => ?_, fun x hx => ?_, ⟨fun j hj => ?_, fun j hj => ?_, fun j hj => ?_⟩⟩ u3
    · rw [y2 r (fun z => hr ((by decide : ∀ r ∈ ([104, 105] : List Nat), r ∈ ([100, 103, 104, 105] : List Nat)) r z)), hset_ne _ _ _ (ne_of_nm hr (by decide)), hset_ne _ _ _ (ne_of_nm hr (by decide)), hset_ne _ _ _ (ne_of_nm hr (by decide)), hset_ne _ _ _ (ne_of_nm hr (by decide))]
    · rw [t100, hset_at, upd_ne _ _ (ne_of_nm hx (by decide)), hset_at, upd_ne _ _ (ne_of_nm hx (by decide)), hset_at, upd_ne _ _ (ne_of_nm hx (by decide)), hset_at, upd_ne _ _ (ne_of_nm hx (by decide))]
    · rw [y2 103 (by decide), hset_ne _ _ _ (by decide), hset_ne _ _ _ (by decide), hset_ne _ _ _ (by decide), hset_ne _ _ _ (by decide)]
    · rw [y4 j (.inl (by omega)), hset_ne _ _ _ (by decide), hset_ne _ _ _ (by decide), hset_ne _ _ _ (by decide), hset_ne _ _ _ (by decide)]
    · rw [y6 j (.inl (by omega)), hset_ne _ _ _ (by decide), hset_ne _ _ _ (by decide), hset_ne _ _ _ (by decide), hset_ne _ _ _ (by decide)]

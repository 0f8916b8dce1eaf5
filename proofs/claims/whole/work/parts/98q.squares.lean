/-! the squares told: the class -/
theorem wrL {W H r c : Nat} (hr : r < H) (hc : c < W) : W * r + c < W * H := by
  have a : W * (r + 1) ≤ W * H := Nat.mul_le_mul_left W hr
  rw [Nat.mul_succ] at a
  omega
def frSq (g g' : Hp) : Prop := (∀ r, r ≠ 70 → r ≠ 11 → g' r = g r) ∧ ∀ x, x ∉ ([3, 5, 6, 7] : List Nat) → g' 70 x = g 70 x
/-- the class has read n squares of rows of W -/
def SqC (tx : List Nat) (P : Int32) (p W : Nat) (g : Hp) (n : Nat) (g' : Hp) : Prop := cX tx 0 P (psq tx p n) g' ∧ frSq g g' ∧ (∀ j, j < n → g' 11 (j / W * 8 + j % W) = nI (kk tx 1 (skp tx (psq tx p j)))) ∧ ∀ s, (∀ j, j < n → s ≠ j / W * 8 + j % W) → g' 11 s = g 11 s
def SqB (tx : List Nat) (p e : Nat) (g g' : Hp) : Prop := frSq g g' ∧ ∃ p', cX tx 1 (nI (skp tx (psq tx p e))) p' g'
theorem sqIn {tx : List Nat} (hX : okX tx) {P : Int32} {p : Nat} {g : Hp} (N : Nat) (hN : 200 < N) {W H : Nat} (hW : 1 ≤ W ∧ W ≤ 8) (hH : 1 ≤ H ∧ H ≤ 6) {e : Nat} (okk : ∀ n, n < e → lt tx 1 (skp tx (psq tx p n)) ≠ -1) (obad : e < W * H → lt tx 1 (skp tx (psq tx p e)) = -1) {r : Nat} (hr : r < H) {g1 : Hp} (he : W * r ≤ e) (h : SqC tx P p W g (W * r) g1) : ∃ t, loopN (fun z_ : Int32 × Hp => K_Reader_readSquares_L26 N (nI W) (nI H) (nI r) z_.1 z_.2) N (0, g1) = some t ∧ ((∃ g', t = .inr g' ∧ W * (r + 1) ≤ e ∧ SqC tx P p W g (W * (r + 1)) g') ∨ (∃ g', t = .inl g' ∧ e < W * H ∧ SqB tx p e g g')) := by
  refine loopN_inv _ (fun s : Int32 × Hp => ∃ c g', s = (nI c, g') ∧ c ≤ W ∧ W * r + c ≤ e ∧ SqC tx P p W g (W * r + c) g') (fun s => W - s.1.toNatClampNeg) _ (fun s hs => ?_) N (0, g1) ⟨0, g1, rfl, Nat.zero_le _, he, h⟩ (by show W - (0 : Int32).toNatClampNeg < N; omega)
  obtain ⟨c, g2, es, hc, hce, s1, s2, s3, s4⟩ := hs
  subst es
  by_cases cw : c < W
  · have k1 : ¬ nI W ≤ nI c := fun z => by have := (nI_le_iff (by omega) (by omega)).mp z; omega
    have lt48 := wrL hr cw
    obtain ⟨k, g3, a1, a2, a3, a4⟩ := oneC hX s1 N hN (i := 1) (by decide)
    have fr3 : frSq g g3 := ⟨fun q h1 h2 => (a2.1 q h1).trans (s2.1 q h1 h2), fun x hx => (a2.2 x hx).trans (s2.2 x hx)⟩
    rcases a4 with ⟨b1, b2⟩ | ⟨b1, b2, b3⟩
    · right
      have ee : W * r + c = e := by
        by_cases z : W * r + c < e
        · exact absurd b1 (okk _ z)
        · omega
      have b2 : cX tx 1 (nI (skp tx (psq tx p (W * r + c)))) (skp tx (psq tx p (W * r + c))) g3 := b2
      refine ⟨.inl g3, ?_, .inr ⟨g3, rfl, by omega, fr3, _, by rw [← ee]; exact b2⟩⟩
      show K_Reader_readSquares_L26 N (nI W) (nI H) (nI r) (nI c) g2 = _
      unfold K_Reader_readSquares_L26
      rw [if_neg k1, a1, bd2_s, b2.2.2.1, if_neg (by decide)]
    · left
      have ce : W * r + c < e := by
        by_cases z : W * r + c < e
        · exact z
        · have z : W * r + c = e := by omega
          exact absurd (obad (by omega)) (by rw [← z]; exact b1)
      have em : mx [10, 11, 12] (hset g3 11 (r * 8 + c) (nI k)) g3 = hset g3 11 (r * 8 + c) (nI k) := mx_eq (fun q hq => hset_ne _ _ _ (ne_of_nm hq (by decide)))
      have d1 : (W * r + c) / W = r := by rw [Nat.mul_add_div (by omega), Nat.div_eq_of_lt cw, Nat.add_zero]
      have d2 : (W * r + c) % W = c := by rw [Nat.mul_add_mod, Nat.mod_eq_of_lt cw]
      refine ⟨(nI (c + 1), hset g3 11 (r * 8 + c) (nI k)), ?_, ⟨c + 1, _, rfl, by omega, by omega, cX_of (hset_ne _ _ _ (by decide)) (hset_ne _ _ _ (by decide)) b3, ⟨fun q h1 h2 => (hset_ne _ _ _ h2).trans (fr3.1 q h1 h2), fun x hx => by rw [hset_ne _ _ _ (by decide)]; exact fr3.2 x hx⟩, fun j hj => ?_, fun s hs => ?_⟩, ?_⟩
      · show K_Reader_readSquares_L26 N (nI W) (nI H) (nI r) (nI c) g2 = _
        unfold K_Reader_readSquares_L26 K_River_putKind
        rw [if_neg k1, a1, bd2_s, b3.2.2.1, if_pos (show nI 0 = 0 from rfl), show nI r * 8 + nI c = nI (r * 8 + c) by rw [show (8 : Int32) = nI 8 from rfl, nI_mul, nI_add], if_neg (nI_not_neg (by omega)), if_neg (show ¬ (48 : Int32) ≤ nI (r * 8 + c) from fun z => by have := (nI_le_iff (a := 48) (by omega) (by omega)).mp z; omega), sA_nI (by omega) (by omega), nI_cl (by omega), nm_s, bd_s, em, nm_s, show nI c + 1 = nI (c + 1) from nI_add c 1, nm_s]
      · rw [hset_at]
        by_cases cj : j = W * r + c
        · rw [cj, d1, d2, upd_at, b2]
        · rw [upd_ne _ _ (fun z => ?_), a2.1 11 (by decide)]
          · exact s3 j (by omega)
          · have q1 : j % W < W := Nat.mod_lt _ (by omega)
            have q2 : j / W = r := by omega
            have q3 : j % W = c := by omega
            have q4 := Nat.div_add_mod j W
            rw [q2, q3] at q4
            exact cj q4.symm
      · rw [hset_at, upd_ne _ _ (fun z => hs (W * r + c) (by omega) (by rw [d1, d2]; exact z)), a2.1 11 (by decide)]
        exact s4 s (fun j hj => hs j (by omega))
      · show W - (nI (c + 1)).toNatClampNeg < W - (nI c).toNatClampNeg
        rw [nI_cl (by omega), nI_cl (by omega)]
        omega
  · right
    have cw : c = W := by omega
    subst cw
    refine ⟨.inr g2, ?_, .inl ⟨g2, rfl, by rw [Nat.mul_succ]; exact hce, by rw [Nat.mul_succ]; exact ⟨s1, s2, s3, s4⟩⟩⟩
    show K_Reader_readSquares_L26 N (nI c) (nI H) (nI r) (nI c) g2 = _
    unfold K_Reader_readSquares_L26
    rw [if_pos ((nI_le_iff (by omega) (by omega)).mpr (Nat.le_refl _))]
/-- the first open square -/
def fo (K : Nat → Nat) : Nat := fs (fun s => decide (K s ≠ 1)) 48
theorem foC {K : Nat → Nat} (hK : ∀ s, K s ≤ 6) {g : Hp} (h : ∀ s, s < 48 → g 11 s = nI (K s)) (N : Nat) (hN : 200 < N) : K_River_firstOpen N g = some (if fo K < 48 then nI (fo K) else -1) := by
  obtain ⟨t, l1, l2⟩ := loopN_fs (fun z_ : Int32 => K_River_firstOpen_L2 N z_ g) (fun i s => s = nI i) (fun s => decide (K s ≠ 1)) 48 (fun i t => t = .inl (nI i)) (fun t => t = .inr ()) (fun i s hi hJ hp => by
      subst hJ
      have b := hK i
      have c : K i = 1 := Decidable.not_not.mp (of_decide_eq_false hp)
      refine ⟨nI (i + 1), ?_, rfl⟩
      show K_River_firstOpen_L2 N (nI i) g = _
      unfold K_River_firstOpen_L2
      rw [if_neg (show ¬ (48 : Int32) ≤ nI i from fun z => by have := (nI_le_iff (a := 48) (by omega) (by omega)).mp z; omega), gA_nI (by omega) (by omega), h i hi, c, if_pos (show nI 1 = 1 from rfl), show nI i + 1 = nI (i + 1) from nI_add i 1, nm_s]) (fun i s hi hJ hp => by
      subst hJ
      have b := hK i
      have c : K i ≠ 1 := of_decide_eq_true hp
      refine ⟨.inl (nI i), ?_, rfl⟩
      show K_River_firstOpen_L2 N (nI i) g = _
      unfold K_River_firstOpen_L2
      rw [if_neg (show ¬ (48 : Int32) ≤ nI i from fun z => by have := (nI_le_iff (a := 48) (by omega) (by omega)).mp z; omega), gA_nI (by omega) (by omega), h i hi, if_neg (show ¬ nI (K i) = 1 from fun z => c ((nI_eq_iff (b := 1) (by omega) (by omega)).mp z))]) (fun s hJ => by
      subst hJ
      refine ⟨.inr (), ?_, rfl⟩
      show K_River_firstOpen_L2 N (nI 48) g = _
      unfold K_River_firstOpen_L2
      rw [if_pos (by decide)]) (s0 := 0) rfl (N := N) (by omega)
  unfold K_River_firstOpen
  rw [l1, bd_s]
  rcases l2 with ⟨c1, c2⟩ | ⟨c1, c2⟩
  · rw [if_pos (show fo K < 48 from c1), c2]; rfl
  · rw [if_neg (show ¬ fo K < 48 by unfold fo; omega), c2]; rfl

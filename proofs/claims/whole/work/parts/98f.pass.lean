/-! calls: pass by pass, call by call -/
/-- the tables between passes -/
def TS (ρ : Rv) (m0 p0 C P : Nat) (β ℓ π : Nat → Nat) (σ : Nat) (g : Hp) : Prop :=
  ((∀ x, x < 3456 → g 46 x = nI (β x)) ∧ (∀ x, x < 3456 → g 47 x = nI (ℓ x)) ∧ (∀ x, x < 3456 → g 48 x = nI (π x)) ∧ g 45 4 = nI P ∧ g 45 5 = nI σ) ∧
  ((∀ x, x < 3456 → β x ≤ 99 ∧ ℓ x ≤ 99 ∧ π x ≤ P * 64 + 63) ∧ σ ≤ 99 ∧ P ≤ 99999) ∧
  (∀ x, x < 3456 → ℓ x = 99 ∨ (ℓ x ≤ 60 ∧ ∃ q, q < 16 ∧ Rc ρ m0 p0 (ℓ x) C x q)) ∧
  ((σ = 99 ∨ (σ ≤ 60 ∧ Gc ρ m0 p0 C σ)) ∧ ∀ x, x < 3456 → isG ρ (x % 384) = true → ℓ x ≤ 60 → σ ≤ ℓ x)
def frD (h g : Hp) : Prop := (∀ r, r ∉ ([45, 47, 48] : List Nat) → g r = h r) ∧ ∀ f, f ≠ 4 → f ≠ 5 → g 45 f = h 45 f
theorem frD_rf (h : Hp) : frD h h := ⟨fun _ _ => rfl, fun _ _ _ => rfl⟩
theorem frD_tr {h1 h2 h3 : Hp} (a : frD h1 h2) (b : frD h2 h3) : frD h1 h3 := ⟨fun r hr => (b.1 r hr).trans (a.1 r hr), fun f x y => (b.2 f x y).trans (a.2 f x y)⟩
theorem frC_D {h g : Hp} (a : frC h g) : frD h g := ⟨a.1, fun f _ y => a.2 f y⟩
theorem cov_mono {P t t' : Nat} {β π : Nat → Nat} {y : Nat} (h : t ≤ t') (c : Cov P t β π y) : Cov P t' β π y := by
  rcases c with c | c
  · exact .inl (by omega)
  · exact .inr (by omega)
/-- what a pass has found -/
theorem finK {ρ : Rv} (hW : WF ρ) {m0 p0 C p P : Nat} {ℓ0 ℓs : Nat → Nat} {Src : Nat → Nat → Prop} {ℓ π : Nat → Nat} {σ : Nat} {g : Hp} (hI : PI ρ m0 p0 C p P ℓ0 ℓs Src 0 0 ℓ π σ g) (hle : ∀ x, x < 3456 → ℓs x ≤ ℓ0 x)
    (hN : ∀ x, okM ρ x → ¬ Src x (ℓ0 x) → ∀ j, ℓ0 x + j ≤ 60 → ℓ0 (aftI ρ p j x) ≤ ℓ0 x + j) : ∀ i x t, okM ρ x → Cov P t ℓ0 π x → t + i ≤ 60 → ℓ (aftI ρ p i x) ≤ t + i := by
  obtain ⟨-, ⟨bb, -, -⟩, a3, a4, a5, -, -⟩ := hI
  intro i
  induction i with
  | zero =>
    intro x t ox hc ht
    have xl := okM_lt hW ox
    obtain ⟨u1, u2, u3, u4⟩ := bb x xl
    rcases hc with hc | hc
    · have := hle x xl
      show ℓ x ≤ t + 0
      omega
    · have := a3 x xl (P * 64 + 63 - π x) (by omega) (by omega) (by omega)
      show ℓ x ≤ t + 0
      omega
  | succ i ih =>
    intro x t ox hc ht
    have xl := okM_lt hW ox
    obtain ⟨u1, u2, u3, u4⟩ := bb x xl
    have oy := aft_ok hW (kn := 0) (p := p) ox
    have step : Cov P (t + 1) ℓ0 π (aft ρ 0 x p) → ℓ (aftI ρ p (i + 1) x) ≤ t + (i + 1) := fun c => by
      rw [aftI_front]
      have := ih (aft ρ 0 x p) (t + 1) oy c (by omega)
      omega
    rcases hc with hc | hc
    · by_cases cs : Src x (ℓ0 x)
      · rcases a5 x xl _ cs (by omega) with z | ⟨_, z⟩
        · exact step (cov_mono (by omega) z)
        · omega
      · have l := hN x ox cs (i + 1) (by omega)
        have := (bb _ (okM_lt hW (aftI_ok hW (p := p) ox (i + 1)))).2.2.2
        have := hle _ (okM_lt hW (aftI_ok hW (p := p) ox (i + 1)))
        omega
    · rcases a4 x xl (P * 64 + 63 - π x) (by omega) (by omega) (by omega) with z | ⟨_, z⟩
      · exact step (cov_mono (by omega) z)
      · omega
theorem strokesToK {h : Hp} {x : Nat} (hx : x < 3456) : K_Calling_strokesTo (nI x) h = some (h 46 x) := by
  unfold K_Calling_strokesTo
  rw [if_neg (nI_not_neg (by omega)), if_neg (show ¬ (3456 : Int32) ≤ nI x from fun q => by have := (nI_le_iff (a := 3456) (by omega) (by omega)).mp q; omega), gA_nI (by omega) (by omega)]
/-- one pass over the sources -/
theorem passK {ρ : Rv} (hW : WF ρ) (N : Nat) (hN : 5000 < N) {h : Hp} (hc : RC ρ h) (hl : RL ρ h) (hr : RK ρ 0 h) {m0 p0 C p P : Nat} {ℓ0 ℓ π : Nat → Nat} {σ : Nat} (hp : p < 16) {many : Nat} {sr : Nat → Nat} (hm : many ≤ 3456) (hs : ∀ i, i < many → h 49 i = nI (sr i) ∧ okM ρ (sr i) ∧ ℓ0 (sr i) ≤ 60 ∧ ∃ q, q < 16 ∧ Rc ρ m0 p0 (ℓ0 (sr i)) C (sr i) q)
    (hT : TS ρ m0 p0 (C + 1) P ℓ0 ℓ π σ h) (hle : ∀ x, x < 3456 → ℓ x ≤ ℓ0 x) (hP : P + 1 ≤ 99999) (x3 : Int32) :
    ∃ g' ℓ' π' σ', loopN (fun z_ : Int32 × Hp => K_Calling_callOnAndOn_L51 N x3 (nI many) (nI p) z_.1 z_.2) N (0, hset h 45 4 (nI (P + 1))) = some g' ∧ frD h g' ∧ PI ρ m0 p0 (C + 1) p (P + 1) ℓ0 ℓ (fun x T => (∃ i, i < many ∧ sr i = x) ∧ T = ℓ0 x) 0 0 ℓ' π' σ' g' := by
  obtain ⟨⟨b46, b47, b48, b4, b5⟩, ⟨bb, bσ, bP⟩, b6, b7⟩ := hT
  have P0 : PI ρ m0 p0 (C + 1) p (P + 1) ℓ0 ℓ (fun x T => (∃ i, i < 0 ∧ sr i = x) ∧ T = ℓ0 x) 0 0 ℓ π σ (hset h 45 4 (nI (P + 1))) := by
    refine ⟨⟨fun x hx => by rw [hset_ne _ _ _ (by decide)]; exact b46 x hx, fun x hx => by rw [hset_ne _ _ _ (by decide)]; exact b47 x hx, fun x hx => by rw [hset_ne _ _ _ (by decide)]; exact b48 x hx, by rw [hset_at, upd_at], by rw [hset_at, upd_ne _ _ (by decide)]; exact b5⟩, ⟨fun x hx => ?_, bσ, by omega⟩, fun x hx τ h1 h2 h3 => ?_, fun x hx τ h1 h2 h3 => ?_, fun x hx T ⟨⟨i, hi, _⟩, _⟩ => absurd hi (Nat.not_lt_zero _), b6, b7⟩
    · obtain ⟨u1, u2, u3⟩ := bb x hx
      exact ⟨u1, u2, by omega, Nat.le_refl _⟩
    · obtain ⟨u1, u2, u3⟩ := bb x hx
      omega
    · obtain ⟨u1, u2, u3⟩ := bb x hx
      omega
  have fr0 : frD h (hset h 45 4 (nI (P + 1))) := ⟨fun r hr => hset_ne _ _ _ (ne_of_nm hr (by decide)), fun f h1 _ => by rw [hset_at, upd_ne _ _ h1]⟩
  obtain ⟨t, l1, ℓ', π', σ', f1, f2⟩ := loopN_fx (fun z_ : Int32 × Hp => K_Calling_callOnAndOn_L51 N x3 (nI many) (nI p) z_.1 z_.2) (fun i s => ∃ g ℓ' π' σ', s = (nI i, g) ∧ frD h g ∧ PI ρ m0 p0 (C + 1) p (P + 1) ℓ0 ℓ (fun x T => (∃ j, j < i ∧ sr j = x) ∧ T = ℓ0 x) 0 0 ℓ' π' σ' g) many (fun t => ∃ ℓ' π' σ', frD h t ∧ PI ρ m0 p0 (C + 1) p (P + 1) ℓ0 ℓ (fun x T => (∃ j, j < many ∧ sr j = x) ∧ T = ℓ0 x) 0 0 ℓ' π' σ' t) (fun i s hi hJ => by
      obtain ⟨g, ℓ', π', σ', e, f1, f2⟩ := hJ
      subst e
      obtain ⟨s1, s2, s3, q, s4, s5⟩ := hs i hi
      have sl := okM_lt hW s2
      have c1 : RC ρ g := RC_of (f1.1 _ (by decide)) (f1.1 _ (by decide)) (f1.1 _ (by decide)) hc
      have c2 : RL ρ g := RL_of (f1.1 _ (by decide)) (f1.1 _ (by decide)) (f1.1 _ (by decide)) hl
      have c3 : RK ρ 0 g := RK_of (f1.1 _ (by decide)) (f1.1 _ (by decide)) hr
      have f2' := f2
      obtain ⟨⟨d46, d47, d48, d4, d5⟩, d2, d3, d6, d7, d8, d9⟩ := f2'
      have pend : PI ρ m0 p0 (C + 1) p (P + 1) ℓ0 ℓ (fun x T => (∃ j, j < i + 1 ∧ sr j = x) ∧ T = ℓ0 x) (sr i) (ℓ0 (sr i) + 1) ℓ' π' σ' g := by
        refine ⟨⟨d46, d47, d48, d4, d5⟩, d2, d3, fun x hx τ h1 h2 h3 => ?_, fun x hx T hS h2 => ?_, d8, d9⟩
        · rcases d6 x hx τ h1 h2 h3 with z | ⟨_, z⟩
          · exact .inl z
          · omega
        · obtain ⟨⟨j, hj, ej⟩, eT⟩ := hS
          by_cases c : j = i
          · rw [c] at ej
            exact .inr ⟨ej.symm, by rw [eT, ej]⟩
          · rcases d7 x hx T ⟨⟨j, by omega, ej⟩, eT⟩ h2 with z | ⟨_, z⟩
            · exact .inl z
            · omega
      obtain ⟨g2, ℓ2, π2, σ2, z1, z2, z3⟩ := goOnK hW N (by omega) c1 c2 c3 hp s2 s3 pend (fun _ => Rc_call s5 s4)
      refine ⟨(nI (i + 1), g2), ?_, g2, ℓ2, π2, σ2, rfl, frD_tr f1 (frC_D z2), z3⟩
      show K_Calling_callOnAndOn_L51 N x3 (nI many) (nI p) (nI i) g = _
      unfold K_Calling_callOnAndOn_L51
      rw [if_neg (fun q => by have := (nI_le_iff (by omega) (by omega)).mp q; omega), if_neg (show ¬ (3456 : Int32) ≤ nI i from fun q => by have := (nI_le_iff (a := 3456) (by omega) (by omega)).mp q; omega), gA_nI (by omega) (by omega), gA_nI (by omega) (by omega), f1.1 49 (by decide), s1, strokesToK sl, bd_s, d46 _ sl, z1, bd_s, show nI i + 1 = nI (i + 1) from nI_add i 1, nm_s]) (fun s hJ => by
      obtain ⟨g, ℓ', π', σ', e, f1, f2⟩ := hJ
      subst e
      refine ⟨g, ?_, ℓ', π', σ', f1, f2⟩
      show K_Calling_callOnAndOn_L51 N x3 (nI many) (nI p) (nI many) g = _
      unfold K_Calling_callOnAndOn_L51
      rw [if_pos ((nI_le_iff (by omega) (by omega)).mpr (Nat.le_refl _))]) (s0 := (0, hset h 45 4 (nI (P + 1)))) ⟨_, ℓ, π, σ, rfl, fr0, P0⟩ (N := N) (by omega)
  exact ⟨t, ℓ', π', σ', l1, f1, f2⟩
/-- one call more -/
theorem iterK {ρ : Rv} (hW : WF ρ) (N : Nat) (hN : 5000 < N) {h : Hp} (hc : RC ρ h) (hl : RL ρ h) (hr : RK ρ 0 h) {m0 p0 C P : Nat} {ℓ0 π : Nat → Nat} {σ : Nat} {many : Nat} {sr : Nat → Nat} (hm : many ≤ 3456) (hs : ∀ i, i < many → h 49 i = nI (sr i) ∧ okM ρ (sr i) ∧ ℓ0 (sr i) ≤ 60 ∧ ∃ q, q < 16 ∧ Rc ρ m0 p0 (ℓ0 (sr i)) C (sr i) q)
    (hT : TS ρ m0 p0 (C + 1) P ℓ0 ℓ0 π σ h) (hP : P + 16 ≤ 99999) (x3 : Int32)
    (hNS : ∀ x, okM ρ x → (¬ ∃ i, i < many ∧ sr i = x) → ∀ p, p < 16 → ∀ j, ℓ0 x + j ≤ 60 → ℓ0 (aftI ρ p j x) ≤ ℓ0 x + j) :
    ∃ g' ℓ π' σ' P', loopN (fun z_ : Int32 × Hp => K_Calling_callOnAndOn_L26 N x3 (nI many) z_.1 z_.2) N (0, h) = some g' ∧ frD h g' ∧ P' ≤ P + 16 ∧ TS ρ m0 p0 (C + 1) P' ℓ0 ℓ π' σ' g' ∧ (∀ x, x < 3456 → ℓ x ≤ ℓ0 x) ∧ ∀ p, p < 16 → ∀ x, okM ρ x → ∀ j, ℓ0 x + j ≤ 60 → ℓ (aftI ρ p j x) ≤ ℓ0 x + j := by
  by_cases m0' : many = 0
  · subst m0'
    refine ⟨h, ℓ0, π, σ, P, ?_, frD_rf h, by omega, hT, fun _ _ => Nat.le_refl _, fun p hp x ox j hj => hNS x ox (fun ⟨i, hi, _⟩ => absurd hi (Nat.not_lt_zero _)) p hp j hj⟩
    obtain ⟨n, rfl⟩ : ∃ n, N = n + 1 := ⟨N - 1, by omega⟩
    refine loopN_t n ?_
    show K_Calling_callOnAndOn_L26 (n + 1) x3 (nI 0) (nI 0) h = _
    unfold K_Calling_callOnAndOn_L26
    rw [if_neg (by decide), if_pos (by decide)]
  · obtain ⟨t, l1, ℓ', π', σ', f1, f2, f3, f4⟩ := loopN_fx (fun z_ : Int32 × Hp => K_Calling_callOnAndOn_L26 N x3 (nI many) z_.1 z_.2) (fun p s => ∃ g ℓ π σ, s = (nI p, g) ∧ frD h g ∧ TS ρ m0 p0 (C + 1) (P + p) ℓ0 ℓ π σ g ∧ (∀ x, x < 3456 → ℓ x ≤ ℓ0 x) ∧ ∀ p', p' < p → ∀ x, okM ρ x → ∀ j, ℓ0 x + j ≤ 60 → ℓ (aftI ρ p' j x) ≤ ℓ0 x + j) 16 (fun t => ∃ ℓ π σ, frD h t ∧ TS ρ m0 p0 (C + 1) (P + 16) ℓ0 ℓ π σ t ∧ (∀ x, x < 3456 → ℓ x ≤ ℓ0 x) ∧ ∀ p', p' < 16 → ∀ x, okM ρ x → ∀ j, ℓ0 x + j ≤ 60 → ℓ (aftI ρ p' j x) ≤ ℓ0 x + j) (fun p s hp hJ => by
        obtain ⟨g, ℓ, π, σ, e, f1, f2, f3, f4⟩ := hJ
        subst e
        have c1 : RC ρ g := RC_of (f1.1 _ (by decide)) (f1.1 _ (by decide)) (f1.1 _ (by decide)) hc
        have c2 : RL ρ g := RL_of (f1.1 _ (by decide)) (f1.1 _ (by decide)) (f1.1 _ (by decide)) hl
        have c3 : RK ρ 0 g := RK_of (f1.1 _ (by decide)) (f1.1 _ (by decide)) hr
        obtain ⟨g2, ℓ2, π2, σ2, z1, z2, z3⟩ := passK hW N hN c1 c2 c3 hp hm (fun i hi => by rw [f1.1 49 (by decide)]; exact hs i hi) f2 f3 (by omega) x3
        have fin := finK hW z3 f3 (fun x ox hx j hj => hNS x ox (fun z => hx ⟨z, rfl⟩) p hp j hj)
        rw [show P + p + 1 = P + (p + 1) from rfl] at z3 z1
        obtain ⟨dd1, ⟨d2, dσ, dP⟩, d3, d6, d7, d8, d9⟩ := z3
        have bnd : ∀ x, x < 3456 → ℓ0 x ≤ 99 ∧ ℓ2 x ≤ 99 ∧ π2 x ≤ (P + (p + 1)) * 64 + 63 := fun x hx => by
          obtain ⟨u1, u2, u3, u4⟩ := d2 x hx
          exact ⟨u1, u2, Nat.le_succ_of_le u3⟩
        have pb : P + (p + 1) ≤ 99999 := by omega
        have ts : TS ρ m0 p0 (C + 1) (P + (p + 1)) ℓ0 ℓ2 π2 σ2 g2 := ⟨dd1, ⟨bnd, dσ, pb⟩, d8, d9⟩
        refine ⟨(nI (p + 1), g2), ?_, g2, ℓ2, π2, σ2, rfl, frD_tr f1 z2, ts, fun x hx => Nat.le_trans (d2 x hx).2.2.2 (f3 x hx), fun p' hp' x ox j hj => ?_⟩
        · show K_Calling_callOnAndOn_L26 N x3 (nI many) (nI p) g = _
          unfold K_Calling_callOnAndOn_L26
          rw [if_neg (show ¬ (16 : Int32) ≤ nI p from fun q => by have := (nI_le_iff (a := 16) (by omega) (by omega)).mp q; omega), if_neg (show ¬ nI many ≤ (0 : Int32) from fun q => by have := (nI_le_iff (b := 0) (by omega) (by omega)).mp q; omega), f2.1.2.2.2.1, show nI (P + p) + 1 = nI (P + (p + 1)) from nI_add (P + p) 1, nm_s, z1, bd_s, show nI p + 1 = nI (p + 1) from nI_add p 1, nm_s]
        · by_cases c : p' = p
          · subst c
            exact fin j x (ℓ0 x) ox (.inl (Nat.le_refl _)) hj
          · have a := f4 p' (by omega) x ox j hj
            have oj := okM_lt hW (aftI_ok hW (p := p') ox j)
            have := (d2 _ oj).2.2.2
            omega) (fun s hJ => by
        obtain ⟨g, ℓ, π, σ, e, f1, f2, f3, f4⟩ := hJ
        subst e
        refine ⟨g, ?_, ℓ, π, σ, f1, f2, f3, f4⟩
        show K_Calling_callOnAndOn_L26 N x3 (nI many) (nI 16) g = _
        unfold K_Calling_callOnAndOn_L26
        rw [if_pos (by decide)]) (s0 := (0, h)) ⟨h, ℓ0, π, σ, rfl, frD_rf h, hT, fun _ _ => Nat.le_refl _, fun p' hp' => absurd hp' (Nat.not_lt_zero _)⟩ (N := N) (by omega)
    exact ⟨t, ℓ', π', σ', P + 16, l1, f1, Nat.le_refl _, f2, f3, f4⟩
/-- what has been brought nearer is gathered -/
theorem gatherK (N : Nat) (hN : 5000 < N) {h : Hp} {β ℓ : Nat → Nat} (h46 : ∀ x, x < 3456 → h 46 x = nI (β x)) (h47 : ∀ x, x < 3456 → h 47 x = nI (ℓ x)) (hb : ∀ x, x < 3456 → β x ≤ 99 ∧ ℓ x ≤ 99 ∧ ℓ x ≤ β x) :
    ∃ (g : Hp) (many : Nat) (sr : Nat → Nat), K_Calling_gatherSources N h = some (nI many, g) ∧ many ≤ 3456 ∧ (∀ r, r ∉ ([46, 49] : List Nat) → g r = h r) ∧ (∀ x, x < 3456 → g 46 x = nI (ℓ x)) ∧ (∀ i, i < many → g 49 i = nI (sr i) ∧ sr i < 3456 ∧ ℓ (sr i) < β (sr i)) ∧ ∀ x, x < 3456 → ℓ x < β x → ∃ i, i < many ∧ sr i = x := by
  obtain ⟨t, l1, many, sr, g, e, f1, f2, f3, f4, f5⟩ := loopN_fx (fun z_ : Int32 × Int32 × Hp => K_Calling_gatherSources_L4 N z_.1 z_.2.1 z_.2.2) (fun x s => ∃ (many : Nat) (sr : Nat → Nat) (g : Hp), s = (nI many, nI x, g) ∧ many ≤ x ∧ (∀ r, r ∉ ([46, 49] : List Nat) → g r = h r) ∧ (∀ y, y < 3456 → g 46 y = nI (if y < x then ℓ y else β y)) ∧ (∀ i, i < many → g 49 i = nI (sr i) ∧ sr i < x ∧ ℓ (sr i) < β (sr i)) ∧ ∀ y, y < x → ℓ y < β y → ∃ i, i < many ∧ sr i = y) 3456 (fun t => ∃ (many : Nat) (sr : Nat → Nat) (g : Hp), t = (nI many, g) ∧ many ≤ 3456 ∧ (∀ r, r ∉ ([46, 49] : List Nat) → g r = h r) ∧ (∀ y, y < 3456 → g 46 y = nI (ℓ y)) ∧ (∀ i, i < many → g 49 i = nI (sr i) ∧ sr i < 3456 ∧ ℓ (sr i) < β (sr i)) ∧ ∀ y, y < 3456 → ℓ y < β y → ∃ i, i < many ∧ sr i = y) (fun x s hx hJ => by
      obtain ⟨many, sr, g, e, f1, f2, f3, f4, f5⟩ := hJ
      subst e
      obtain ⟨u1, u2, u3⟩ := hb x hx
      have v46 : g 46 x = nI (β x) := by rw [f3 x hx, if_neg (Nat.lt_irrefl x)]
      have v47 : g 47 x = nI (ℓ x) := by rw [f2 47 (by decide)]; exact h47 x hx
      show ∃ s', K_Calling_gatherSources_L4 N (nI many) (nI x) g = some (.inl s') ∧ _
      unfold K_Calling_gatherSources_L4
      have n34 : ¬ (3456 : Int32) ≤ nI x := fun q => by have := (nI_le_iff (a := 3456) (by omega) (by omega)).mp q; omega
      rw [if_neg n34, if_neg n34, gA_nI (by omega) (by omega), gA_nI (by omega) (by omega), v46, v47, show nI x + 1 = nI (x + 1) from nI_add x 1, nm_s]
      by_cases c : β x ≤ ℓ x
      · rw [if_pos ((nI_le_iff (by omega) (by omega)).mpr c)]
        refine ⟨_, rfl, many, sr, g, rfl, by omega, f2, fun y hy => ?_, fun i hi => ⟨(f4 i hi).1, by have := (f4 i hi).2.1; omega, (f4 i hi).2.2⟩, fun y hy hl => ?_⟩
        · rw [f3 y hy]
          by_cases d : y = x
          · subst d
            rw [if_neg (Nat.lt_irrefl y), if_pos (Nat.lt_succ_self y)]
            congr 1; omega
          · by_cases d2 : y < x
            · rw [if_pos d2, if_pos (by omega)]
            · rw [if_neg d2, if_neg (by omega)]
        · by_cases d : y = x
          · subst d; omega
          · exact f5 y (by omega) hl
      · rw [if_neg (fun q => c ((nI_le_iff (by omega) (by omega)).mp q)), if_neg (show ¬ (3456 : Int32) ≤ nI many from fun q => by have := (nI_le_iff (a := 3456) (by omega) (by omega)).mp q; omega), gA_nI (by omega) (by omega), v47, sA_nI (by omega) (by omega), nI_cl (by omega), nm_s, sA_nI (by omega) (by omega), nI_cl (by omega), nm_s, show nI many + 1 = nI (many + 1) from nI_add many 1, nm_s, nm_s]
        refine ⟨_, rfl, many + 1, (fun i => if i = many then x else sr i), _, rfl, by omega, fun r hr => ?_, fun y hy => ?_, fun i hi => ?_, fun y hy hl => ?_⟩
        · rw [hset_ne _ _ _ (ne_of_nm hr (by decide)), hset_ne _ _ _ (ne_of_nm hr (by decide))]; exact f2 r hr
        · rw [hset_ne _ _ _ (by decide), hset_at]
          by_cases d : y = x
          · rw [d, upd_at, if_pos (Nat.lt_succ_self x)]
          · rw [upd_ne _ _ d, f3 y hy]
            by_cases d2 : y < x
            · rw [if_pos d2, if_pos (by omega)]
            · rw [if_neg d2, if_neg (by omega)]
        · show _ = nI (if i = many then x else sr i) ∧ (if i = many then x else sr i) < x + 1 ∧ ℓ (if i = many then x else sr i) < β (if i = many then x else sr i)
          rw [hset_at]
          by_cases d : i = many
          · rw [if_pos d, d, upd_at]; exact ⟨rfl, by omega, by omega⟩
          · rw [if_neg d, upd_ne _ _ d, hset_ne _ _ _ (by decide)]
            obtain ⟨w1, w2, w3⟩ := f4 i (by omega)
            exact ⟨w1, by omega, w3⟩
        · by_cases d : y = x
          · exact ⟨many, by omega, by show (if many = many then x else sr many) = y; rw [if_pos rfl]; exact d.symm⟩
          · obtain ⟨i, w1, w2⟩ := f5 y (by omega) hl
            exact ⟨i, by omega, by show (if i = many then x else sr i) = y; rw [if_neg (by omega)]; exact w2⟩) (fun s hJ => by
      obtain ⟨many, sr, g, e, f1, f2, f3, f4, f5⟩ := hJ
      subst e
      refine ⟨(nI many, g), ?_, many, sr, g, rfl, f1, f2, fun y hy => by rw [f3 y hy, if_pos hy], f4, f5⟩
      show K_Calling_gatherSources_L4 N (nI many) (nI 3456) g = _
      unfold K_Calling_gatherSources_L4
      rw [if_pos (by decide)]) (s0 := (0, 0, h)) ⟨0, fun _ => 0, h, rfl, Nat.le_refl _, fun _ _ => rfl, fun y hy => by rw [if_neg (Nat.not_lt_zero _)]; exact h46 y hy, fun i hi => absurd hi (Nat.not_lt_zero _), fun y hy => absurd hy (Nat.not_lt_zero _)⟩ (N := N) (by omega)
  subst e
  refine ⟨g, many, sr, ?_, f1, f2, f3, f4, f5⟩
  unfold K_Calling_gatherSources
  rw [l1, bd_s]
/-- all that is reached with C calls is told -/
def cmp (ρ : Rv) (m0 p0 C : Nat) (ℓ : Nat → Nat) : Prop := ∀ t m p, t ≤ 60 → p < 16 → Rc ρ m0 p0 t C m p → ℓ m ≤ t
def OI (ρ : Rv) (m0 p0 P0 C : Nat) (g : Hp) : Prop := ∃ (β ℓ π : Nat → Nat) (σ P : Nat), TS ρ m0 p0 C P β ℓ π σ g ∧ P ≤ P0 + 16 * C ∧ cmp ρ m0 p0 C ℓ ∧ (∀ x, x < 3456 → ℓ x ≤ β x ∧ (β x = 99 ∨ (1 ≤ C ∧ β x ≤ 60 ∧ ∃ q, q < 16 ∧ Rc ρ m0 p0 (β x) (C - 1) x q))) ∧ ∀ c' t', c' < C → t' ≤ 60 → ¬ Gc ρ m0 p0 c' t'
theorem Gc_mono {ρ : Rv} {m0 p0 c c' t : Nat} (h : c ≤ c') (H : Gc ρ m0 p0 c t) : Gc ρ m0 p0 c' t := by
  obtain ⟨m, p, h1, h2, h3⟩ := H
  exact ⟨m, p, h1, Rc_mono t c c' m p h h2, h3⟩
theorem oiStep {ρ : Rv} (hW : WF ρ) (N : Nat) (hN : 5000 < N) {h g : Hp} (hc : RC ρ h) (hl : RL ρ h) (hr : RK ρ 0 h) {m0 p0 P0 C : Nat} (hm0 : okM ρ m0) (hP0 : P0 ≤ 90000) (hC : C < 60) (hf : ∀ r, r ∉ ([45, 46, 47, 48, 49] : List Nat) → g r = h r) (hO : OI ρ m0 p0 P0 C g) (h99 : g 45 5 = 99) (x3 : Int32) :
    ∃ many g1 g2, K_Calling_gatherSources N g = some (nI many, g1) ∧ loopN (fun z_ : Int32 × Hp => K_Calling_callOnAndOn_L26 N x3 (nI many) z_.1 z_.2) N (0, g1) = some g2 ∧ OI ρ m0 p0 P0 (C + 1) g2 ∧ (∀ r, r ∉ ([45, 46, 47, 48, 49] : List Nat) → g2 r = h r) ∧ ∀ f, f ≠ 4 → f ≠ 5 → g2 45 f = g 45 f := by
  obtain ⟨β, ℓ, π, σ, P, ⟨⟨b46, b47, b48, b4, b5⟩, ⟨bb, bσ, bP⟩, b6, b7, b8⟩, p1, p2, p3, p4⟩ := hO
  have s99 : σ = 99 := by
    rw [b5] at h99
    exact (nI_eq_iff (b := 99) (by omega) (by omega)).mp h99
  obtain ⟨g1, many, sr, y1, y2, y3, y4, y5, y6⟩ := gatherK N hN b46 b47 (fun x hx => ⟨(bb x hx).1, (bb x hx).2.1, (p3 x hx).1⟩)
  have ok : ∀ x, x < 3456 → ℓ x ≤ 98 → okM ρ x ∧ ℓ x ≤ 60 ∧ ∃ q, q < 16 ∧ Rc ρ m0 p0 (ℓ x) C x q := fun x hx hx2 => by
    rcases b6 x hx with z | ⟨z1, q, z2, z3⟩
    · omega
    · exact ⟨Rc_ok hW hm0 _ _ _ _ z3, z1, q, z2, z3⟩
  have f1 : ∀ r, r ∉ ([45, 46, 47, 48, 49] : List Nat) → g1 r = h r := fun r hr => (y3 r (fun q => hr ((by decide : ∀ r ∈ ([46, 49] : List Nat), r ∈ ([45, 46, 47, 48, 49] : List Nat)) r q))).trans (hf r hr)
  have T1 : TS ρ m0 p0 (C + 1) P ℓ ℓ π σ g1 := by
    refine ⟨⟨y4, fun x hx => by rw [y3 47 (by decide)]; exact b47 x hx, fun x hx => by rw [y3 48 (by decide)]; exact b48 x hx, by rw [y3 45 (by decide)]; exact b4, by rw [y3 45 (by decide)]; exact b5⟩, ⟨fun x hx => ⟨(bb x hx).2.1, (bb x hx).2.1, (bb x hx).2.2⟩, bσ, bP⟩, fun x hx => ?_, .inl s99, b8⟩
    rcases b6 x hx with z | ⟨z1, q, z2, z3⟩
    · exact .inl z
    · exact .inr ⟨z1, q, z2, Rc_mono _ C (C + 1) x q (by omega) z3⟩
  obtain ⟨g2, ℓ2, π2, σ2, P2, z1, z2, z3, z4, z5, z6⟩ := iterK hW N hN (RC_of (f1 _ (by decide)) (f1 _ (by decide)) (f1 _ (by decide)) hc) (RL_of (f1 _ (by decide)) (f1 _ (by decide)) (f1 _ (by decide)) hl) (RK_of (f1 _ (by decide)) (f1 _ (by decide)) hr) (m0 := m0) (p0 := p0) (C := C) y2 (fun i hi => by
      obtain ⟨w1, w2, w3⟩ := y5 i hi
      have := (bb _ w2).1
      obtain ⟨o1, o2, o3⟩ := ok _ w2 (by omega)
      exact ⟨w1, o1, o2, o3⟩) T1 (by omega) x3 (fun x ox hns p hp j hj => by
      have xl := okM_lt hW ox
      have e : ℓ x = β x := by
        have a := (p3 x xl).1
        by_cases c : ℓ x < β x
        · exact absurd (y6 x xl c) hns
        · omega
      by_cases j0 : j = 0
      · subst j0; exact Nat.le_refl _
      · obtain ⟨i, rfl⟩ : ∃ i, j = i + 1 := ⟨j - 1, by omega⟩
        rcases (p3 x xl).2 with q | ⟨q1, q2, q, q3, q4⟩
        · omega
        · have r := Rc_on (Rc_call (p := p) q4 q3) i
          rw [show β x + 1 + i = β x + (i + 1) by omega, show C - 1 + 1 = C by omega, ← aftI_front] at r
          rw [e]
          exact p2 _ _ p (by omega) hp r)
  refine ⟨many, g1, g2, y1, z1, ⟨ℓ, ℓ2, π2, σ2, P2, z4, by omega, fun t m' p ht hp hR => ?_, fun x hx => ⟨z5 x hx, ?_⟩, fun c' t' hc' ht' hG => ?_⟩, fun r hr => (z2.1 r (fun q => hr ((by decide : ∀ r ∈ ([45, 47, 48] : List Nat), r ∈ ([45, 46, 47, 48, 49] : List Nat)) r q))).trans (f1 r hr), fun f w1 w2 => (z2.2 f w1 w2).trans (by rw [y3 45 (by decide)])⟩
  · have ml := okM_lt hW (Rc_ok hW hm0 _ _ _ _ hR)
    rcases Rc_split t C m' p hR with r | ⟨j, m, q, r1, r2, r3, r4, r5⟩
    · have a := p2 t m' p ht hp r
      have b := z5 m' ml
      omega
    · have om := Rc_ok hW hm0 _ _ _ _ r4
      have a := p2 (t - j) m q (by omega) r3 r4
      have b := z6 p hp m om j (by omega)
      rw [r5] at b
      omega
  · rcases b6 x hx with z | ⟨w1, q, w2, w3⟩
    · exact .inl z
    · exact .inr ⟨by omega, w1, q, w2, w3⟩
  · by_cases c : c' < C
    · exact p4 c' t' c ht' hG
    · have : c' = C := by omega
      subst this
      obtain ⟨m, p, w1, w2, w3⟩ := hG
      have ml := okM_lt hW (Rc_ok hW hm0 _ _ _ _ w2)
      have a := p2 t' m p ht' w1 w2
      have b := b8 m ml w3 (by omega)
      omega
theorem Gc_60 {ρ : Rv} {m0 p0 c t : Nat} (ht : t ≤ 60) (h : Gc ρ m0 p0 c t) : Gc ρ m0 p0 60 t := by
  obtain ⟨m, p, h1, h2, h3⟩ := h
  exact ⟨m, p, h1, Rc_mono t t 60 m p ht (Rc_cap t c m p h2), h3⟩
theorem callOnK {ρ : Rv} (hW : WF ρ) (N : Nat) (hN : 5000 < N) {h : Hp} (hc : RC ρ h) (hl : RL ρ h) (hr : RK ρ 0 h) {m0 p0 P0 : Nat} (hm0 : okM ρ m0) (hP0 : P0 ≤ 90000) (hO : OI ρ m0 p0 P0 0 h) (s6 : h 45 6 = -1) (s7 : h 45 7 = -1) :
    ∃ g, K_Calling_callOnAndOn N h = some g ∧ (∀ r, r ∉ ([45, 46, 47, 48, 49] : List Nat) → g r = h r) ∧ (∀ f, f ∉ ([4, 5, 6, 7] : List Nat) → g 45 f = h 45 f) ∧ CRes ρ m0 p0 g ∧ ∃ P, P ≤ P0 + 960 ∧ g 45 4 = nI P ∧ ∀ x, x < 3456 → ∃ q, q ≤ P * 64 + 63 ∧ g 48 x = nI q := by
  obtain ⟨t, l1, C, g, e, q1, q2, q3, q4, q5⟩ := loopN_inv (fun z_ : Int32 × Hp => K_Calling_callOnAndOn_L2 N z_.1 z_.2) (fun s => ∃ C g, s = (nI C, g) ∧ C ≤ 60 ∧ OI ρ m0 p0 P0 C g ∧ (∀ r, r ∉ ([45, 46, 47, 48, 49] : List Nat) → g r = h r) ∧ ∀ f, f ≠ 4 → f ≠ 5 → g 45 f = h 45 f) (fun s => 61 - s.1.toNatClampNeg) (fun t => ∃ C g, t = (nI C, g) ∧ C ≤ 60 ∧ OI ρ m0 p0 P0 C g ∧ (∀ r, r ∉ ([45, 46, 47, 48, 49] : List Nat) → g r = h r) ∧ (∀ f, f ≠ 4 → f ≠ 5 → g 45 f = h 45 f) ∧ (C = 60 ∨ g 45 5 ≠ 99)) (fun s hI => by
      obtain ⟨C, g, e, q1, q2, q3, q4⟩ := hI
      subst e
      show (∃ s', K_Calling_callOnAndOn_L2 N (nI C) g = some (.inl s') ∧ _) ∨ (∃ t, K_Calling_callOnAndOn_L2 N (nI C) g = some (.inr t) ∧ _)
      unfold K_Calling_callOnAndOn_L2
      by_cases c1 : 60 ≤ C
      · right
        exact ⟨_, by rw [if_pos (show (60 : Int32) ≤ nI C from (nI_le_iff (a := 60) (by omega) (by omega)).mpr c1)], C, g, rfl, q1, q2, q3, q4, .inl (by omega)⟩
      · rw [if_neg (show ¬ (60 : Int32) ≤ nI C from fun q => c1 ((nI_le_iff (a := 60) (by omega) (by omega)).mp q))]
        by_cases c2 : g 45 5 = 99
        · left
          obtain ⟨many, g1, g2, z1, z2, z3, z4, z5⟩ := oiStep hW N hN hc hl hr hm0 hP0 (by omega) q3 q2 c2 (nI C)
          refine ⟨(nI (C + 1), g2), ?_, ⟨C + 1, g2, rfl, by omega, z3, z4, fun f w1 w2 => (z5 f w1 w2).trans (q4 f w1 w2)⟩, ?_⟩
          · rw [if_pos c2, z1, bd2_s, z2, bd_s, show nI C + 1 = nI (C + 1) from nI_add C 1, nm_s]
          · show 61 - (nI (C + 1)).toNatClampNeg < 61 - (nI C).toNatClampNeg
            rw [nI_cl (by omega), nI_cl (by omega)]
            omega
        · right
          exact ⟨_, by rw [if_neg c2], C, g, rfl, q1, q2, q3, q4, .inr c2⟩) N (0, h) ⟨0, h, rfl, by omega, hO, fun _ _ => rfl, fun _ _ _ => rfl⟩ (by show 61 - _ < N; omega)
  subst e
  have q2' := q2
  obtain ⟨β, ℓ, π, σ, P, ⟨⟨b46, b47, b48, b4, b5⟩, ⟨bb, bσ, bP⟩, b6, b7, b8⟩, p1, p2, p3, p4⟩ := q2'
  unfold K_Calling_callOnAndOn
  rw [l1, bd_s]
  show ∃ g', K_Calling_callOnAndOn_J112 N (nI C) g = some g' ∧ _
  unfold K_Calling_callOnAndOn_J112
  have tail : ∃ P, P ≤ P0 + 960 ∧ g 45 4 = nI P ∧ ∀ x, x < 3456 → ∃ q, q ≤ P * 64 + 63 ∧ g 48 x = nI q := ⟨P, by omega, b4, fun x hx => ⟨π x, (bb x hx).2.2, b48 x hx⟩⟩
  by_cases c2 : g 45 5 = 99
  · rw [if_pos c2]
    have s99 : σ = 99 := by
      rw [b5] at c2
      exact (nI_eq_iff (b := 99) (by omega) (by omega)).mp c2
    have e60 : C = 60 := by
      rcases q5 with z | z
      · exact z
      · exact absurd c2 z
    refine ⟨g, rfl, q3, fun f hf => q4 f (ne_of_nm hf (by decide)) (ne_of_nm hf (by decide)), .inr ⟨fun c t' ht' hG => ?_, by rw [q4 6 (by decide) (by decide)]; exact s6, by rw [q4 7 (by decide) (by decide)]; exact s7⟩, tail⟩
    have hG := Gc_60 ht' hG
    rw [← e60] at hG
    obtain ⟨m, p, w1, w2, w3⟩ := hG
    have ml := okM_lt hW (Rc_ok hW hm0 _ _ _ _ w2)
    have a := p2 t' m p ht' w1 w2
    have b := b8 m ml w3 (by omega)
    omega
  · rw [if_neg c2, nm_s, nm_s]
    have n99 : σ ≠ 99 := fun z => c2 (by rw [b5, z]; rfl)
    obtain ⟨z1, z2⟩ : σ ≤ 60 ∧ Gc ρ m0 p0 C σ := by
      rcases b7 with z | z
      · exact absurd z n99
      · exact z
    have v5 : (hset g 45 6 (nI C)) 45 5 = nI σ := by rw [hset_at, upd_ne _ _ (by decide)]; exact b5
    refine ⟨_, rfl, fun r hr => ?_, fun f hf => ?_, .inl ⟨C, σ, z1, z2, fun c' t' ht' hG => ?_, fun t' ht' hG => ?_, ?_, ?_⟩, ?_⟩
    · rw [hset_ne _ _ _ (ne_of_nm hr (by decide)), hset_ne _ _ _ (ne_of_nm hr (by decide))]; exact q3 r hr
    · rw [hset_at, upd_ne _ _ (ne_of_nm hf (by decide)), hset_at, upd_ne _ _ (ne_of_nm hf (by decide))]
      exact q4 f (ne_of_nm hf (by decide)) (ne_of_nm hf (by decide))
    · by_cases c : C ≤ c'
      · exact c
      · exact absurd hG (p4 c' t' (by omega) ht')
    · obtain ⟨m, p, w1, w2, w3⟩ := hG
      have ml := okM_lt hW (Rc_ok hW hm0 _ _ _ _ w2)
      have a := p2 t' m p ht' w1 w2
      have b := b8 m ml w3 (by omega)
      omega
    · rw [hset_at, upd_ne _ _ (by decide), hset_at, upd_at]
    · rw [hset_at, upd_at]; exact v5
    · obtain ⟨P', t1, t2, t3⟩ := tail
      refine ⟨P', t1, ?_, fun x hx => ?_⟩
      · rw [hset_at, upd_ne _ _ (by decide), hset_at, upd_ne _ _ (by decide)]; exact t2
      · obtain ⟨q, w1, w2⟩ := t3 x hx
        exact ⟨q, w1, by rw [hset_ne _ _ _ (by decide), hset_ne _ _ _ (by decide)]; exact w2⟩

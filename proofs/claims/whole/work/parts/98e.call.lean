/-! calls: the theory, going on with one pair -/
def aftI (ρ : Rv) (p : Nat) : Nat → Nat → Nat
  | 0, m => m
  | j + 1, m => aft ρ 0 (aftI ρ p j m) p
theorem aftI_front (ρ : Rv) (p : Nat) : ∀ j m, aftI ρ p (j + 1) m = aftI ρ p j (aft ρ 0 m p)
  | 0, _ => rfl
  | j + 1, m => by
    show aft ρ 0 (aftI ρ p (j + 1) m) p = aft ρ 0 (aftI ρ p j (aft ρ 0 m p)) p
    rw [aftI_front ρ p j m]
theorem aftI_ok {ρ : Rv} (hW : WF ρ) {p m : Nat} (h : okM ρ m) : ∀ j, okM ρ (aftI ρ p j m)
  | 0 => h
  | j + 1 => aft_ok hW (aftI_ok hW h j)
theorem Rc_ok {ρ : Rv} (hW : WF ρ) {m0 p0 : Nat} (h0 : okM ρ m0) : ∀ t c m p, Rc ρ m0 p0 t c m p → okM ρ m
  | 0, c, m, p, h => by
    have h : m = m0 ∧ p = p0 := h
    rw [h.1]; exact h0
  | t + 1, c, m, p, h => by
    obtain ⟨x, h1, h2⟩ := h
    rw [← h1]
    rcases h2 with h2 | ⟨_, q, _, h2⟩
    · exact aft_ok hW (Rc_ok hW h0 t c x p h2)
    · exact aft_ok hW (Rc_ok hW h0 t (c - 1) x q h2)
theorem Rc_mono {ρ : Rv} {m0 p0 : Nat} : ∀ t c c' m p, c ≤ c' → Rc ρ m0 p0 t c m p → Rc ρ m0 p0 t c' m p
  | 0, c, c', m, p, _, h => h
  | t + 1, c, c', m, p, hc, h => by
    obtain ⟨x, h1, h2⟩ := h
    refine ⟨x, h1, ?_⟩
    rcases h2 with h2 | ⟨h3, q, hq, h2⟩
    · exact .inl (Rc_mono t c c' x p hc h2)
    · exact .inr ⟨by omega, q, hq, Rc_mono t (c - 1) (c' - 1) x q (by omega) h2⟩
theorem Rc_cap {ρ : Rv} {m0 p0 : Nat} : ∀ t c m p, Rc ρ m0 p0 t c m p → Rc ρ m0 p0 t t m p
  | 0, c, m, p, h => h
  | t + 1, c, m, p, h => by
    obtain ⟨x, h1, h2⟩ := h
    refine ⟨x, h1, ?_⟩
    rcases h2 with h2 | ⟨h3, q, hq, h2⟩
    · exact .inl (Rc_mono t t (t + 1) x p (by omega) (Rc_cap t c x p h2))
    · exact .inr ⟨by omega, q, hq, Rc_cap t (c - 1) x q h2⟩
theorem Rc_on {ρ : Rv} {m0 p0 t c m p : Nat} (h : Rc ρ m0 p0 t c m p) : ∀ j, Rc ρ m0 p0 (t + j) c (aftI ρ p j m) p
  | 0 => h
  | j + 1 => ⟨_, rfl, .inl (Rc_on h j)⟩
theorem Rc_call {ρ : Rv} {m0 p0 t c m q p : Nat} (h : Rc ρ m0 p0 t c m q) (hq : q < 16) : Rc ρ m0 p0 (t + 1) (c + 1) (aft ρ 0 m p) p := ⟨m, rfl, .inr ⟨by omega, q, hq, h⟩⟩
theorem Rc_split {ρ : Rv} {m0 p0 : Nat} : ∀ t c m' p, Rc ρ m0 p0 t (c + 1) m' p → Rc ρ m0 p0 t c m' p ∨ ∃ j m q, 1 ≤ j ∧ j ≤ t ∧ q < 16 ∧ Rc ρ m0 p0 (t - j) c m q ∧ aftI ρ p j m = m'
  | 0, c, m', p, h => .inl h
  | t + 1, c, m', p, h => by
    obtain ⟨x, h1, h2⟩ := h
    rcases h2 with h2 | ⟨_, q, hq, h2⟩
    · rcases Rc_split t c x p h2 with z | ⟨j, m, q, z1, z2, z3, z4, z5⟩
      · exact .inl ⟨x, h1, .inl z⟩
      · refine .inr ⟨j + 1, m, q, by omega, by omega, z3, by rw [show t + 1 - (j + 1) = t - j by omega]; exact z4, ?_⟩
        show aft ρ 0 (aftI ρ p j m) p = m'
        rw [z5]; exact h1
    · exact .inr ⟨1, x, q, by omega, by omega, hq, by rw [show t + 1 - 1 = t by omega]; exact h2, h1⟩
theorem Rc_0 {ρ : Rv} {m0 p0 : Nat} : ∀ t m p, Rc ρ m0 p0 t 0 m p → p = p0 ∧ m = aftI ρ p0 t m0
  | 0, m, p, h => by
    have h : m = m0 ∧ p = p0 := h
    exact ⟨h.2, h.1⟩
  | t + 1, m, p, h => by
    obtain ⟨x, h1, h2⟩ := h
    rcases h2 with h2 | ⟨z, _⟩
    · obtain ⟨a, b⟩ := Rc_0 t x p h2
      refine ⟨a, ?_⟩
      show m = aft ρ 0 (aftI ρ p0 t m0) p0
      rw [← h1, b, a]
    · exact absurd z (by omega)
/-- known to be reached within t -/
def Cov (P t : Nat) (β π : Nat → Nat) (y : Nat) : Prop := β y ≤ t ∨ P * 64 + 63 - t ≤ π y
/-- while one pair is paddled on: X at t stands open -/
def PI (ρ : Rv) (m0 p0 C p P : Nat) (β ℓ0 : Nat → Nat) (Src : Nat → Nat → Prop) (X t : Nat) (ℓ π : Nat → Nat) (σ : Nat) (g : Hp) : Prop :=
  ((∀ x, x < 3456 → g 46 x = nI (β x)) ∧ (∀ x, x < 3456 → g 47 x = nI (ℓ x)) ∧ (∀ x, x < 3456 → g 48 x = nI (π x)) ∧ g 45 4 = nI P ∧ g 45 5 = nI σ) ∧
  ((∀ x, x < 3456 → β x ≤ 99 ∧ ℓ x ≤ 99 ∧ π x ≤ P * 64 + 62 ∧ ℓ x ≤ ℓ0 x) ∧ σ ≤ 99 ∧ P ≤ 100000) ∧
  (∀ x, x < 3456 → ∀ τ, 1 ≤ τ → τ ≤ 60 → π x = P * 64 + 63 - τ → ℓ x ≤ τ) ∧
  (∀ x, x < 3456 → ∀ τ, 1 ≤ τ → τ ≤ 59 → π x = P * 64 + 63 - τ → Cov P (τ + 1) β π (aft ρ 0 x p) ∨ (x = X ∧ τ + 1 = t)) ∧
  (∀ x, x < 3456 → ∀ T, Src x T → T ≤ 59 → Cov P (T + 1) β π (aft ρ 0 x p) ∨ (x = X ∧ T + 1 = t)) ∧
  (∀ x, x < 3456 → ℓ x = 99 ∨ (ℓ x ≤ 60 ∧ ∃ q, q < 16 ∧ Rc ρ m0 p0 (ℓ x) C x q)) ∧
  ((σ = 99 ∨ (σ ≤ 60 ∧ Gc ρ m0 p0 C σ)) ∧ ∀ x, x < 3456 → isG ρ (x % 384) = true → ℓ x ≤ 60 → σ ≤ ℓ x)
/-- what going on leaves alone -/
def frC (h g : Hp) : Prop := (∀ r, r ∉ ([45, 47, 48] : List Nat) → g r = h r) ∧ ∀ f, f ≠ 5 → g 45 f = h 45 f
theorem goOnK {ρ : Rv} (hW : WF ρ) (N : Nat) (hN : 200 < N) {h : Hp} (hc : RC ρ h) (hl : RL ρ h) (hr : RK ρ 0 h) {m0 p0 C p P : Nat} {β ℓ0 : Nat → Nat} {Src : Nat → Nat → Prop} {X T : Nat} {ℓ π : Nat → Nat} {σ : Nat} (hp : p < 16) (hX : okM ρ X) (hT : T ≤ 60) (hI : PI ρ m0 p0 C p P β ℓ0 Src X (T + 1) ℓ π σ h) (hR : T + 1 ≤ 60 → Rc ρ m0 p0 (T + 1) C (aft ρ 0 X p) p) : ∃ g' ℓ' π' σ', K_Calling_goOn N (nI X) (nI T) (nI p) h = some g' ∧ frC h g' ∧ PI ρ m0 p0 C p P β ℓ0 Src 0 0 ℓ' π' σ' g' := by
  have close : ∀ (x t : Nat) (ℓ π : Nat → Nat) (σ : Nat) (g : Hp), PI ρ m0 p0 C p P β ℓ0 Src x t ℓ π σ g → (t ≤ 60 → Cov P t β π (aft ρ 0 x p)) → PI ρ m0 p0 C p P β ℓ0 Src 0 0 ℓ π σ g := by
    intro x t ℓ π σ g hI hcov
    obtain ⟨a1, a2, a3, a4, a5, a6, a7⟩ := hI
    refine ⟨a1, a2, a3, fun y hy τ h1 h2 h3 => ?_, fun y hy T' h1 h2 => ?_, a6, a7⟩
    · rcases a4 y hy τ h1 h2 h3 with z | ⟨z1, z2⟩
      · exact .inl z
      · left
        have := hcov (by omega)
        rw [← z2, ← z1] at this
        exact this
    · rcases a5 y hy T' h1 h2 with z | ⟨z1, z2⟩
      · exact .inl z
      · left
        have := hcov (by omega)
        rw [← z2, ← z1] at this
        exact this
  obtain ⟨t, l1, l2⟩ := loopN_inv (fun z_ : Int32 × Int32 × Hp => K_Calling_goOn_L9 N (nI p) z_.1 z_.2.1 z_.2.2) (fun s => ∃ x t ℓ π σ g, s = (nI x, nI t, g) ∧ 1 ≤ t ∧ t ≤ 61 ∧ okM ρ x ∧ frC h g ∧ PI ρ m0 p0 C p P β ℓ0 Src x t ℓ π σ g ∧ (t ≤ 60 → Rc ρ m0 p0 t C (aft ρ 0 x p) p)) (fun s => 62 - s.2.1.toNatClampNeg) (fun t => ∃ g' ℓ' π' σ', (t = .inl g' ∨ t = .inr g') ∧ frC h g' ∧ PI ρ m0 p0 C p P β ℓ0 Src 0 0 ℓ' π' σ' g') (fun s hI => by
      obtain ⟨x, t, ℓ, π, σ, g, e, q1, q2, ox, q3, q4, q5⟩ := hI
      subst e
      have q4' := q4
      obtain ⟨⟨b46, b47, b48, b4, b5⟩, ⟨bb, bσ, bP⟩, a3, a4, a5, a6, a7, a8⟩ := q4'
      show (∃ s', K_Calling_goOn_L9 N (nI p) (nI x) (nI t) g = some (.inl s') ∧ _) ∨ (∃ u, K_Calling_goOn_L9 N (nI p) (nI x) (nI t) g = some (.inr u) ∧ _)
      unfold K_Calling_goOn_L9
      by_cases c1 : 60 < t
      · right
        exact ⟨.inr g, by rw [if_pos (show (60 : Int32) < nI t from (nI_lt_iff (a := 60) (by omega) (by omega)).mpr c1)], g, ℓ, π, σ, .inr rfl, q3, close x t ℓ π σ g q4 (fun z => absurd z (by omega))⟩
      · have hc2 : RC ρ g := RC_of (q3.1 _ (by decide)) (q3.1 _ (by decide)) (q3.1 _ (by decide)) hc
        have hl2 : RL ρ g := RL_of (q3.1 _ (by decide)) (q3.1 _ (by decide)) (q3.1 _ (by decide)) hl
        have hr2 : RK ρ 0 g := RK_of (q3.1 _ (by decide)) (q3.1 _ (by decide)) hr
        have oy := aft_ok hW (kn := 0) (p := p) ox
        have yl := okM_lt hW oy
        have xl := okM_lt hW ox
        have rcy := q5 (by omega)
        obtain ⟨bβ, bℓ, bπ, bℓ0⟩ := bb _ yl
        have st : (((nI P * 64 + 64) - 1) - nI t : Int32) = nI (P * 64 + 63 - t) := by
          rw [show (64 : Int32) = nI 64 from rfl, nI_mul, nI_add, show (1 : Int32) = nI 1 from rfl, nI_sub (by omega), nI_sub (by omega)]
          congr 1
        rw [if_neg (show ¬ (60 : Int32) < nI t from fun q => c1 ((nI_lt_iff (a := 60) (by omega) (by omega)).mp q)), afterK hW hl2 (by omega) hr2 ox.1 hp, bd_s, b4, st, nm_s]
        generalize hy : aft ρ 0 x p = y at *
        rw [if_neg (nI_not_neg (by omega)), if_neg (show ¬ (3456 : Int32) ≤ nI y from fun q => by have := (nI_le_iff (a := 3456) (by omega) (by omega)).mp q; omega), gA_nI (by omega) (by omega), gA_nI (by omega) (by omega), b46 y yl, b48 y yl]
        by_cases c2 : β y ≤ t
        · right
          refine ⟨.inl g, by rw [if_pos ((nI_le_iff (by omega) (by omega)).mpr c2)], g, ℓ, π, σ, .inl rfl, q3, close x t ℓ π σ g q4 (fun _ => ?_)⟩
          rw [hy]; exact .inl c2
        · rw [if_neg (fun q => c2 ((nI_le_iff (by omega) (by omega)).mp q))]
          by_cases c3 : π y < P * 64 + 63 - t
          · left
            rw [if_pos ((nI_lt_iff (by omega) (by omega)).mpr c3), sA_nI (by omega) (by omega), nI_cl (by omega), nm_s, gA_nI (by omega) (by omega)]
            have v47 : (hset g 48 y (nI (P * 64 + 63 - t))) 47 y = nI (ℓ y) := by rw [hset_ne _ _ _ (by decide)]; exact b47 y yl
            rw [v47, sA_nI (by omega) (by omega), nm_s]
            have em : (if nI t < nI (ℓ y) then nI t else nI (ℓ y)) = nI (if t < ℓ y then t else ℓ y) := by
              by_cases c : t < ℓ y
              · rw [if_pos ((nI_lt_iff (by omega) (by omega)).mpr c), if_pos c]
              · rw [if_neg (fun q => c ((nI_lt_iff (by omega) (by omega)).mp q)), if_neg c]
            rw [em]
            -- the new tables
            have core : ∀ σ', (σ' = 99 ∨ (σ' ≤ 60 ∧ Gc ρ m0 p0 C σ')) → σ' ≤ σ → (isG ρ (y % 384) = true → σ' ≤ t) → ∀ g2 : Hp, (∀ r, r ≠ 45 → g2 r = hset (hset g 48 y (nI (P * 64 + 63 - t))) 47 y (nI (if t < ℓ y then t else ℓ y)) r) → (∀ f, f ≠ 5 → g2 45 f = g 45 f) → g2 45 5 = nI σ' → PI ρ m0 p0 C p P β ℓ0 Src y (t + 1) (fun x => if x = y then (if t < ℓ y then t else ℓ y) else ℓ x) (fun x => if x = y then P * 64 + 63 - t else π x) σ' g2 ∧ frC h g2 := by
              intro σ' s1 s2 s3 g2 r1 r2 r3
              have cvm : ∀ τ z, Cov P τ β π z → Cov P τ β (fun x => if x = y then P * 64 + 63 - t else π x) z := fun τ z hz => by
                rcases hz with hz | hz
                · exact .inl hz
                · right
                  show P * 64 + 63 - τ ≤ (if z = y then P * 64 + 63 - t else π z)
                  by_cases c : z = y
                  · rw [if_pos c]; rw [c] at hz; omega
                  · rw [if_neg c]; exact hz
              have own : Cov P t β (fun x => if x = y then P * 64 + 63 - t else π x) y := .inr (by
                show P * 64 + 63 - t ≤ (if y = y then P * 64 + 63 - t else π y)
                rw [if_pos rfl]; exact Nat.le_refl _)
              refine ⟨⟨⟨fun z hz => ?_, fun z hz => ?_, fun z hz => ?_, ?_, r3⟩, ⟨fun z hz => ?_, by omega, bP⟩, fun z hz τ h1 h2 h3 => ?_, fun z hz τ h1 h2 h3 => ?_, fun z hz T' h1 h2 => ?_, fun z hz => ?_, s1, fun z hz h1 h2 => ?_⟩, ⟨fun r hr => ?_, fun f hf => (r2 f hf).trans (q3.2 f hf)⟩⟩
              · rw [r1 46 (by decide), hset_ne _ _ _ (by decide), hset_ne _ _ _ (by decide)]; exact b46 z hz
              · rw [r1 47 (by decide), hset_at]
                show _ = nI (if z = y then (if t < ℓ y then t else ℓ y) else ℓ z)
                by_cases c : z = y
                · rw [if_pos c, c, upd_at]
                · rw [if_neg c, upd_ne _ _ c, hset_ne _ _ _ (by decide)]; exact b47 z hz
              · rw [r1 48 (by decide), hset_ne _ _ _ (by decide), hset_at]
                show _ = nI (if z = y then P * 64 + 63 - t else π z)
                by_cases c : z = y
                · rw [if_pos c, c, upd_at]
                · rw [if_neg c, upd_ne _ _ c]; exact b48 z hz
              · rw [r2 4 (by decide)]; exact b4
              · obtain ⟨u1, u2, u3, u4⟩ := bb z hz
                show β z ≤ 99 ∧ (if z = y then (if t < ℓ y then t else ℓ y) else ℓ z) ≤ 99 ∧ (if z = y then P * 64 + 63 - t else π z) ≤ P * 64 + 62 ∧ (if z = y then (if t < ℓ y then t else ℓ y) else ℓ z) ≤ ℓ0 z
                by_cases c : z = y
                · subst c
                  rw [if_pos rfl, if_pos rfl]
                  refine ⟨u1, ?_, by omega, ?_⟩
                  · split <;> omega
                  · split <;> omega
                · rw [if_neg c, if_neg c]; exact ⟨u1, u2, u3, u4⟩
              · show (if z = y then (if t < ℓ y then t else ℓ y) else ℓ z) ≤ τ
                have h3 : (if z = y then P * 64 + 63 - t else π z) = P * 64 + 63 - τ := h3
                by_cases c : z = y
                · rw [if_pos c] at h3 ⊢
                  split <;> omega
                · rw [if_neg c] at h3 ⊢
                  exact a3 z hz τ h1 h2 h3
              · have h3 : (if z = y then P * 64 + 63 - t else π z) = P * 64 + 63 - τ := h3
                by_cases c : z = y
                · rw [if_pos c] at h3
                  exact .inr ⟨c, by omega⟩
                · rw [if_neg c] at h3
                  left
                  rcases a4 z hz τ h1 h2 h3 with w | ⟨w1, w2⟩
                  · exact cvm _ _ w
                  · rw [w1, hy, w2]; exact own
              · left
                rcases a5 z hz T' h1 h2 with w | ⟨w1, w2⟩
                · exact cvm _ _ w
                · rw [w1, hy, w2]; exact own
              · show (if z = y then (if t < ℓ y then t else ℓ y) else ℓ z) = 99 ∨ ((if z = y then (if t < ℓ y then t else ℓ y) else ℓ z) ≤ 60 ∧ ∃ q, q < 16 ∧ Rc ρ m0 p0 (if z = y then (if t < ℓ y then t else ℓ y) else ℓ z) C z q)
                by_cases c : z = y
                · rw [if_pos c]
                  by_cases c4 : t < ℓ y
                  · rw [if_pos c4]
                    exact .inr ⟨by omega, p, hp, by rw [c]; exact rcy⟩
                  · rw [if_neg c4]
                    have := a6 y yl
                    rw [c]; exact this
                · rw [if_neg c]; exact a6 z hz
              · show σ' ≤ (if z = y then (if t < ℓ y then t else ℓ y) else ℓ z)
                have h2 : (if z = y then (if t < ℓ y then t else ℓ y) else ℓ z) ≤ 60 := h2
                by_cases c : z = y
                · rw [if_pos c] at h2 ⊢
                  rw [c] at h1
                  by_cases c4 : t < ℓ y
                  · rw [if_pos c4]; exact s3 h1
                  · rw [if_neg c4] at h2 ⊢
                    have := a8 y yl h1 h2
                    omega
                · rw [if_neg c] at h2 ⊢
                  have := a8 z hz h1 h2
                  omega
              · have n45 : r ≠ 45 := ne_of_nm hr (by decide)
                rw [r1 r n45, hset_ne _ _ _ (ne_of_nm hr (by decide)), hset_ne _ _ _ (ne_of_nm hr (by decide))]
                exact q3.1 r hr
            have u5 : (hset (hset g 48 y (nI (P * 64 + 63 - t))) 47 y (nI (if t < ℓ y then t else ℓ y))) 45 = g 45 := by rw [hset_ne _ _ _ (by decide), hset_ne _ _ _ (by decide)]
            have rc3 : RC ρ (hset (hset g 48 y (nI (P * 64 + 63 - t))) 47 y (nI (if t < ℓ y then t else ℓ y))) := RC_of (by rw [hset_ne _ _ _ (by decide), hset_ne _ _ _ (by decide)]) (by rw [hset_ne _ _ _ (by decide), hset_ne _ _ _ (by decide)]) (by rw [hset_ne _ _ _ (by decide), hset_ne _ _ _ (by decide)]) hc2
            have nxt : ∀ (σ' : Nat) (g2 : Hp), PI ρ m0 p0 C p P β ℓ0 Src y (t + 1) (fun x => if x = y then (if t < ℓ y then t else ℓ y) else ℓ x) (fun x => if x = y then P * 64 + 63 - t else π x) σ' g2 ∧ frC h g2 → ∃ s', (nm (nI t + 1) (fun v137 => some (.inl (nI y, v137, g2))) : Option ((Int32 × Int32 × Hp) ⊕ (Hp ⊕ Hp))) = some (.inl s') ∧ (∃ x t ℓ π σ g, s' = (nI x, nI t, g) ∧ 1 ≤ t ∧ t ≤ 61 ∧ okM ρ x ∧ frC h g ∧ PI ρ m0 p0 C p P β ℓ0 Src x t ℓ π σ g ∧ (t ≤ 60 → Rc ρ m0 p0 t C (aft ρ 0 x p) p)) ∧ 62 - s'.2.1.toNatClampNeg < 62 - (nI t).toNatClampNeg := by
              intro σ' g2 hh
              rw [show nI t + 1 = nI (t + 1) from nI_add t 1, nm_s]
              refine ⟨_, rfl, ⟨y, t + 1, _, _, σ', g2, rfl, by omega, by omega, oy, hh.2, hh.1, fun _ => ⟨y, rfl, .inl rcy⟩⟩, ?_⟩
              show 62 - (nI (t + 1)).toNatClampNeg < 62 - (nI t).toNatClampNeg
              rw [nI_cl (by omega), nI_cl (by omega)]
              omega
            have e5 : (hset (hset g 48 y (nI (P * 64 + 63 - t))) 47 y (nI (if t < ℓ y then t else ℓ y))) 45 5 = nI σ := by rw [u5]; exact b5
            rw [e5]
            by_cases c5 : σ ≤ t
            · rw [if_pos ((nI_le_iff (by omega) (by omega)).mpr c5)]
              exact nxt σ _ (core σ a7 (Nat.le_refl _) (fun _ => c5) _ (fun r _ => rfl) (fun f _ => by rw [u5]) e5)
            · rw [if_neg (fun q => c5 ((nI_le_iff (by omega) (by omega)).mp q)), show (384 : Int32) = nI 384 from rfl, nI_rem (by omega) (by omega) (by omega), isGoalK hW rc3 (Nat.mod_lt _ (by omega)), bd_s]
              by_cases c6 : isG ρ (y % 384) = true
              · rw [if_pos c6, if_neg (by decide), nm_s]
                refine nxt t _ (core t (.inr ⟨by omega, y, p, hp, rcy, c6⟩) (by omega) (fun _ => Nat.le_refl _) _ (fun r hr => hset_ne _ _ _ hr) (fun f hf => by rw [hset_at, upd_ne _ _ hf, u5]) (by rw [hset_at, upd_at]))
              · rw [if_neg c6, if_pos rfl]
                exact nxt σ _ (core σ a7 (Nat.le_refl _) (fun z => absurd z c6) _ (fun r _ => rfl) (fun f _ => by rw [u5]) e5)
          · right
            refine ⟨.inl g, by rw [if_neg (fun q => c3 ((nI_lt_iff (by omega) (by omega)).mp q))], g, ℓ, π, σ, .inl rfl, q3, close x t ℓ π σ g q4 (fun _ => ?_)⟩
            rw [hy]; exact .inr (by omega)) N (nI X, nI (T + 1), h) ⟨X, T + 1, ℓ, π, σ, h, rfl, by omega, by omega, hX, ⟨fun _ _ => rfl, fun _ _ => rfl⟩, hI, hR⟩ (by show 62 - _ < N; omega)
  obtain ⟨g', ℓ', π', σ', e, f1, f2⟩ := l2
  refine ⟨g', ℓ', π', σ', ?_, f1, f2⟩
  unfold K_Calling_goOn
  rw [show nI T + 1 = nI (T + 1) from nI_add T 1, nm_s, l1, bd_s]
  rcases e with e | e
  · subst e; rfl
  · subst e; rfl

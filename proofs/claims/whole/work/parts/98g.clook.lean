/-! calls: the look -/
theorem clookK {ρ : Rv} (hW : WF ρ) (N : Nat) (hN : 5000 < N) {k : Nat} {h : Hp} (hk : k < 64) (hc : RC ρ h) (hl : RL ρ h) (hr : RK ρ 0 h) {m0 p0 : Nat} (hm0 : okM ρ m0) (hp0 : p0 < 16) (hM : MC ρ k h) : ∃ h1, K_Calling_look N (nI m0) (nI p0) h = some h1 ∧ (∀ r, r ∉ ([45, 46, 47, 48, 49] : List Nat) → h1 r = h r) ∧ CRes ρ m0 p0 h1 ∧ MC ρ (k + 1) h1 := by
  have ml := okM_lt hW hm0
  obtain ⟨⟨P, q1, q2, q3⟩, q4⟩ := hM
  unfold K_Calling_look
  rw [show (16 : Int32) = nI 16 from rfl, nI_mul, nI_add, nm_s]
  by_cases c0 : nI (m0 * 16 + p0) = h 45 8
  · rw [if_pos c0]
    rcases q4 with q | ⟨m, p, z1, z2, z3, z4⟩
    · rw [q] at c0
      exact absurd c0 (neM1 (by omega))
    · have ml2 := okM_lt hW z1
      have z3' := z3
      rw [z3] at c0
      have := (nI_eq_iff (by omega) (by omega)).mp c0
      have e1 : m0 = m := by omega
      have e2 : p0 = p := by omega
      subst e1 e2
      exact ⟨h, rfl, fun _ _ => rfl, z4, ⟨P, by omega, q2, q3⟩, .inr ⟨m0, p0, z1, z2, z3', z4⟩⟩
  · rw [if_neg c0, if_neg (nI_not_neg (by omega)), if_pos (show nI m0 < (3456 : Int32) from (nI_lt_iff (b := 3456) (by omega) (by omega)).mpr ml), nm_s, nm_s, nm_s]
    have o : ∀ r, r ≠ 45 → hset (hset (hset h 45 8 (nI (m0 * 16 + p0))) 45 6 (-1)) 45 7 (-1) r = h r := fun r n => by rw [hset_ne _ _ _ n, hset_ne _ _ _ n, hset_ne _ _ _ n]
    have s8 : hset (hset (hset h 45 8 (nI (m0 * 16 + p0))) 45 6 (-1)) 45 7 (-1) 45 8 = nI (m0 * 16 + p0) := by rw [hset_at, upd_ne _ _ (by decide), hset_at, upd_ne _ _ (by decide), hset_at, upd_at]
    have s6 : hset (hset (hset h 45 8 (nI (m0 * 16 + p0))) 45 6 (-1)) 45 7 (-1) 45 6 = -1 := by rw [hset_at, upd_ne _ _ (by decide), hset_at, upd_at]
    have s7 : hset (hset (hset h 45 8 (nI (m0 * 16 + p0))) 45 6 (-1)) 45 7 (-1) 45 7 = -1 := by rw [hset_at, upd_at]
    have s4 : hset (hset (hset h 45 8 (nI (m0 * 16 + p0))) 45 6 (-1)) 45 7 (-1) 45 4 = nI P := by rw [hset_at, upd_ne _ _ (by decide), hset_at, upd_ne _ _ (by decide), hset_at, upd_ne _ _ (by decide)]; exact q2
    generalize hset (hset (hset h 45 8 (nI (m0 * 16 + p0))) 45 6 (-1)) 45 7 (-1) = g at o s4 s6 s7 s8 ⊢
    have hc2 : RC ρ g := RC_of (o _ (by decide)) (o _ (by decide)) (o _ (by decide)) hc
    have g8 : g 10 8 = iI ((rG ρ : Int) - 1) := hc2.2.2.2.2.2.2.2.1
    have no : ∀ r, r ∉ ([45, 46, 47, 48, 49] : List Nat) → g r = h r := fun r hr => o r (ne_of_nm hr (by decide))
    by_cases g0 : rG ρ = 0
    · rw [g8, g0, if_pos (by decide)]
      have cr : CRes ρ m0 p0 g := .inr ⟨fun c t _ hG => by
        obtain ⟨m, p, _, _, w⟩ := hG
        have := rch_no g0 0 0 m
        rw [rch0, w] at this
        exact absurd this (by decide), s6, s7⟩
      exact ⟨g, rfl, no, cr, ⟨P, by omega, s4, fun m hm => by rw [o 48 (by decide)]; exact q3 m hm⟩, .inr ⟨m0, p0, hm0, hp0, s8, cr⟩⟩
    · have gw := (goal_W hW g0).2
      rw [g8, if_neg (fun q => by have := (iI_eq_iff (b := -1) (by omega) (by omega) (by omega) (by omega)).mp q; omega), nm_s, nm_s, sA_nI (by omega) (by omega), nI_cl (by omega), nm_s]
      obtain ⟨π, hπ⟩ : ∃ π : Nat → Nat, ∀ x, x < 3456 → π x ≤ P * 64 + 63 ∧ g 48 x = nI (π x) := by
        refine ⟨fun x => (g 48 x).toNatClampNeg, fun x hx => ?_⟩
        obtain ⟨q, w1, w2⟩ := q3 x hx
        have e : g 48 x = nI q := by rw [o 48 (by decide)]; exact w2
        show (g 48 x).toNatClampNeg ≤ _ ∧ g 48 x = nI (g 48 x).toNatClampNeg
        rw [e, nI_cl (by omega)]
        exact ⟨w1, rfl⟩
      have r2 : ∀ r, r ∉ ([46, 47] : List Nat) → hset (hrow (hrow g 46 (filled 3456 (g 46) 99)) 47 (filled 3456 ((hrow g 46 (filled 3456 (g 46) 99)) 47) 99)) 47 m0 0 r = g r := fun r hr => by rw [hset_ne _ _ _ (ne_of_nm hr (by decide)), hrow_ne _ _ (ne_of_nm hr (by decide)), hrow_ne _ _ (ne_of_nm hr (by decide))]
      have v46 : ∀ x, x < 3456 → hset (hrow (hrow g 46 (filled 3456 (g 46) 99)) 47 (filled 3456 ((hrow g 46 (filled 3456 (g 46) 99)) 47) 99)) 47 m0 0 46 x = nI 99 := fun x hx => by
        rw [hset_ne _ _ _ (by decide), hrow_ne _ _ (by decide), hrow_at]
        exact if_pos hx
      have v47 : ∀ x, x < 3456 → hset (hrow (hrow g 46 (filled 3456 (g 46) 99)) 47 (filled 3456 ((hrow g 46 (filled 3456 (g 46) 99)) 47) 99)) 47 m0 0 47 x = nI (if x = m0 then 0 else 99) := fun x hx => by
        rw [hset_at]
        by_cases c : x = m0
        · rw [c, upd_at, if_pos rfl]; rfl
        · rw [upd_ne _ _ c, hrow_at, if_neg c]
          exact if_pos hx
      generalize hset (hrow (hrow g 46 (filled 3456 (g 46) 99)) 47 (filled 3456 ((hrow g 46 (filled 3456 (g 46) 99)) 47) 99)) 47 m0 0 = g2 at r2 v46 v47 ⊢
      have hc3 : RC ρ g2 := RC_of (r2 _ (by decide)) (r2 _ (by decide)) (r2 _ (by decide)) hc2
      rw [show (384 : Int32) = nI 384 from rfl, nI_rem (by omega) (by omega) (by omega), isGoalK hW hc3 (Nat.mod_lt _ (by omega)), bd_s]
      -- from here on, whatever the first mark
      have go : ∀ σ, ((σ = 99 ∧ ¬ isG ρ (m0 % 384) = true) ∨ (σ = 0 ∧ isG ρ (m0 % 384) = true)) → ∃ h1, K_Calling_look_J101 N (nI m0) (nI p0) (nI σ) g2 = some h1 ∧ (∀ r, r ∉ ([45, 46, 47, 48, 49] : List Nat) → h1 r = h r) ∧ CRes ρ m0 p0 h1 ∧ MC ρ (k + 1) h1 := by
        intro σ hσ
        have e45 : g2 45 = g 45 := r2 45 (by decide)
        have u4 : (hset g2 45 5 (nI σ)) 45 4 = nI P := by rw [hset_at, upd_ne _ _ (by decide), e45]; exact s4
        unfold K_Calling_look_J101
        rw [nm_s, u4, show nI P + 1 = nI (P + 1) from nI_add P 1, nm_s]
        have f0 : ∀ r, r ∉ ([45, 46, 47, 48, 49] : List Nat) → hset (hset g2 45 5 (nI σ)) 45 4 (nI (P + 1)) r = h r := fun r hr => by
          rw [hset_ne _ _ _ (ne_of_nm hr (by decide)), hset_ne _ _ _ (ne_of_nm hr (by decide)), r2 r (fun q => hr ((by decide : ∀ r ∈ ([46, 47] : List Nat), r ∈ ([45, 46, 47, 48, 49] : List Nat)) r q))]
          exact no r hr
        have w4 : hset (hset g2 45 5 (nI σ)) 45 4 (nI (P + 1)) 45 4 = nI (P + 1) := by rw [hset_at, upd_at]
        have w5 : hset (hset g2 45 5 (nI σ)) 45 4 (nI (P + 1)) 45 5 = nI σ := by rw [hset_at, upd_ne _ _ (by decide), hset_at, upd_at]
        have wf : ∀ f, f ≠ 4 → f ≠ 5 → hset (hset g2 45 5 (nI σ)) 45 4 (nI (P + 1)) 45 f = g 45 f := fun f h1 h2 => by rw [hset_at, upd_ne _ _ h1, hset_at, upd_ne _ _ h2, e45]
        have ww : ∀ r, r ≠ 45 → hset (hset g2 45 5 (nI σ)) 45 4 (nI (P + 1)) r = g2 r := fun r hr => by rw [hset_ne _ _ _ hr, hset_ne _ _ _ hr]
        generalize hset (hset g2 45 5 (nI σ)) 45 4 (nI (P + 1)) = g3 at f0 w4 w5 wf ww ⊢
        have c1 : RC ρ g3 := RC_of (f0 _ (by decide)) (f0 _ (by decide)) (f0 _ (by decide)) hc
        have c2 : RL ρ g3 := RL_of (f0 _ (by decide)) (f0 _ (by decide)) (f0 _ (by decide)) hl
        have c3 : RK ρ 0 g3 := RK_of (f0 _ (by decide)) (f0 _ (by decide)) hr
        have σ9 : σ ≤ 99 := by rcases hσ with ⟨z, _⟩ | ⟨z, _⟩ <;> omega
        have I0 : PI ρ m0 p0 0 p0 (P + 1) (fun _ => 99) (fun x => if x = m0 then 0 else 99) (fun x T => x = m0 ∧ T = 0) m0 1 (fun x => if x = m0 then 0 else 99) π σ g3 := by
          refine ⟨⟨fun x hx => by rw [ww 46 (by decide)]; exact v46 x hx, fun x hx => by rw [ww 47 (by decide)]; exact v47 x hx, fun x hx => by rw [ww 48 (by decide), r2 48 (by decide)]; exact (hπ x hx).2, w4, w5⟩, ⟨fun x hx => ⟨Nat.le_refl 99, ?_, ?_, Nat.le_refl _⟩, σ9, by omega⟩, fun x hx τ h1 h2 h3 => ?_, fun x hx τ h1 h2 h3 => ?_, fun x hx T hS _ => .inr ⟨hS.1, by rw [hS.2]⟩, fun x hx => ?_, ?_, fun x hx h1 h2 => ?_⟩
          · show (if x = m0 then 0 else 99) ≤ 99
            split <;> omega
          · have := (hπ x hx).1
            omega
          · have := (hπ x hx).1
            omega
          · have := (hπ x hx).1
            omega
          · show (if x = m0 then 0 else 99) = 99 ∨ ((if x = m0 then 0 else 99) ≤ 60 ∧ ∃ q, q < 16 ∧ Rc ρ m0 p0 (if x = m0 then 0 else 99) 0 x q)
            by_cases c : x = m0
            · rw [if_pos c]; exact .inr ⟨by omega, p0, hp0, c, rfl⟩
            · rw [if_neg c]; exact .inl rfl
          · rcases hσ with ⟨z, _⟩ | ⟨z, z2⟩
            · exact .inl z
            · rw [z]; exact .inr ⟨by omega, m0, p0, hp0, ⟨rfl, rfl⟩, z2⟩
          · have h2 : (if x = m0 then 0 else 99) ≤ 60 := h2
            show σ ≤ (if x = m0 then 0 else 99)
            by_cases c : x = m0
            · rw [if_pos c]
              rcases hσ with ⟨_, z⟩ | ⟨z, _⟩
              · rw [c] at h1; exact absurd h1 z
              · omega
            · rw [if_neg c] at h2; omega
        obtain ⟨g4, ℓ', π', σ', y1, y2, y3⟩ := goOnK hW N (by omega) c1 c2 c3 hp0 hm0 (T := 0) (by omega) I0 (fun _ => ⟨m0, rfl, .inl ⟨rfl, rfl⟩⟩)
        have f4 : ∀ r, r ∉ ([45, 46, 47, 48, 49] : List Nat) → g4 r = h r := fun r hr => (y2.1 r (fun q => hr ((by decide : ∀ r ∈ ([45, 47, 48] : List Nat), r ∈ ([45, 46, 47, 48, 49] : List Nat)) r q))).trans (f0 r hr)
        have fin := finK hW y3 (fun x _ => by
          show (if x = m0 then 0 else 99) ≤ 99
          split <;> omega) (fun x _ _ j hj => absurd hj (by show ¬ 99 + j ≤ 60; omega))
        obtain ⟨dd1, ⟨d2, dσ, dP⟩, d3, d6, d7, d8, d9⟩ := y3
        have cv : Cov (P + 1) 1 (fun _ => 99) π' (aft ρ 0 m0 p0) := by
          rcases d7 m0 ml 0 ⟨rfl, rfl⟩ (by omega) with z | ⟨_, z⟩
          · exact z
          · omega
        have O0 : OI ρ m0 p0 (P + 1) 0 g4 := by
          refine ⟨fun _ => 99, ℓ', π', σ', P + 1, ⟨dd1, ⟨fun x hx => ⟨(d2 x hx).1, (d2 x hx).2.1, Nat.le_succ_of_le (d2 x hx).2.2.1⟩, dσ, by omega⟩, d8, d9⟩, by omega, fun t m p ht hp hR => ?_, fun x hx => ⟨(d2 x hx).2.1, .inl rfl⟩, fun c' t' hc' => absurd hc' (Nat.not_lt_zero _)⟩
          obtain ⟨e1, e2⟩ := Rc_0 t m p hR
          cases t with
          | zero =>
            have e2 : m = m0 := e2
            have := (d2 m0 ml).2.2.2
            have this : ℓ' m0 ≤ (if m0 = m0 then 0 else 99) := this
            rw [if_pos rfl] at this
            rw [e2]; exact this
          | succ i =>
            rw [e2, aftI_front]
            have := fin i (aft ρ 0 m0 p0) 1 (aft_ok hW hm0) cv (by omega)
            omega
        have s6' : g4 45 6 = -1 := (y2.2 6 (by decide)).trans ((wf 6 (by decide) (by decide)).trans s6)
        have s7' : g4 45 7 = -1 := (y2.2 7 (by decide)).trans ((wf 7 (by decide) (by decide)).trans s7)
        have s8' : g4 45 8 = nI (m0 * 16 + p0) := (y2.2 8 (by decide)).trans ((wf 8 (by decide) (by decide)).trans s8)
        obtain ⟨g5, x1, x2, x3, x4, P', x5, x6, x7⟩ := callOnK hW N hN (RC_of (f4 _ (by decide)) (f4 _ (by decide)) (f4 _ (by decide)) hc) (RL_of (f4 _ (by decide)) (f4 _ (by decide)) (f4 _ (by decide)) hl) (RK_of (f4 _ (by decide)) (f4 _ (by decide)) hr) hm0 (by omega) O0 s6' s7'
        refine ⟨g5, ?_, fun r hr => (x2 r hr).trans (f4 r hr), x4, ⟨P', by omega, x6, x7⟩, .inr ⟨m0, p0, hm0, hp0, (x3 8 (by decide)).trans s8', x4⟩⟩
        rw [show K_Calling_goOn N (nI m0) 0 (nI p0) g3 = some g4 from y1, bd_s, x1, bd_s]
      by_cases cg : isG ρ (m0 % 384) = true
      · rw [if_pos cg, if_neg (by decide)]
        exact go 0 (.inr ⟨rfl, cg⟩)
      · rw [if_neg cg, if_pos rfl]
        exact go 99 (.inl ⟨rfl, cg⟩)

/-! surely: the look goes through -/
theorem surePair0 {k : Nat} {a : St} {h g : Hp} (hW : WF (sR a)) (N : Nat) (hN : 200 < N) (hC : cR (sR a) g) {u m b : Nat} (hu : u < 384) (hs : okS (sR a) (u / 8)) (hT : wT (sR a) m b g) : K_Gusts_surePair N (nI u) 0 g = some (-1) := by
  have val : ∀ x, x < 384 → okS (sR a) (x / 8) → ∃ y, g 56 x = nI y ∧ y < 100 := by
    intro x h1 h2
    have sb := sD_b (sR a) x
    refine ⟨_, hT x h1 h2, ?_⟩
    split <;> omega
  have l : loopN (fun z_ : Int32 => K_Gusts_surePair_L3 N (nI u) 0 z_ g) N (nI 0) = some (.inr ()) := by
    refine loopN_for (fun z_ : Int32 => K_Gusts_surePair_L3 N (nI u) 0 z_ g) (fun p => nI p) 16 _ (fun p hp => ?_) ?_ (by omega)
    · have c1 := cal_okS (p := p) hs
      obtain ⟨y1, e1, l1⟩ := val _ c1.2 c1.1
      show K_Gusts_surePair_L3 N (nI u) 0 (nI p) g = _
      unfold K_Gusts_surePair_L3
      rw [if_neg (fun q => by have := (nI_le_iff (a := 16) (by omega) (by omega)).mp q; omega), calmK hW hC.2.1 (by omega) hC.2.2 hu hp, bd_s, worstOfK c1.2, bd_s, e1, if_pos (show (0 : Int32) ≤ nI y1 from (nI_le_iff (a := 0) (by omega) (by omega)).mpr (by omega)), show nI p + 1 = nI (p + 1) from nI_add p 1, nm_s]
    · show K_Gusts_surePair_L3 N (nI u) 0 (nI 16) g = _
      unfold K_Gusts_surePair_L3
      rw [if_pos (by decide)]
  unfold K_Gusts_surePair
  rw [show loopN (fun z_ : Int32 => K_Gusts_surePair_L3 N (nI u) 0 z_ g) N 0 = _ from l, bd_s]
  rfl
theorem wT_of {ρ : Rv} {n b : Nat} {h h' : Hp} (e : h' 56 = h 56) (H : wT ρ n b h) : wT ρ n b h' := by unfold wT at H ⊢; rw [e]; exact H
theorem srp_fs {ρ : Rv} {n u : Nat} (h : fs (sP ρ n u) 16 < 16) : srp ρ n u = fs (sP ρ n u) 16 := by
  have := find16 (sP ρ n u)
  rw [if_pos h] at this
  exact this
theorem gustsK {k : Nat} {a : St} {h : Hp} (hv : VS k a) (hC : IC k a h) (N : Nat) (hN : 1000 < N) (w : rW (sR a) ≠ 0) : ∃ h1, K_Gusts_look N (nI (sB a).1) h = some h1 ∧ (∀ r, r ∉ ([55, 56] : List Nat) → h1 r = h r) ∧ h1 55 3 = nI (sB a).1 ∧ GRes (sR a) (sB a).1 h1 := by
  have hW := hv.1
  have hu : (sB a).1 < 384 := hv.2.2.1.1.1
  have hs : okS (sR a) ((sB a).1 / 8) := hv.2.2.1.1.2.2 w
  generalize (sB a).1 = u at hu hs ⊢
  have hG := hC.2.2.2.2.2.2.2.2.2.2.2
  unfold K_Gusts_look
  by_cases c0 : nI u = h 55 3
  · rw [if_pos c0]
    refine ⟨h, rfl, fun _ _ => rfl, c0.symm, ?_⟩
    rcases hG with q | ⟨u', q1, q2, q3, q4⟩
    · exfalso
      rw [q] at c0
      have := nI_not_neg (a := u) (by omega)
      rw [c0] at this
      exact this (by decide)
    · rw [q3] at c0
      have := (nI_eq_iff (by omega) (by omega)).mp c0
      subst this
      exact q4
  · rw [if_neg c0, if_neg (nI_not_neg (by omega)), if_pos (show nI u < (384 : Int32) from (nI_lt_iff (b := 384) (by omega) (by omega)).mpr hu), nm_s, nm_s, nm_s]
    have o : ∀ r, r ≠ 55 → hset (hset (hset h 55 3 (nI u)) 55 1 (-1)) 55 2 (-1) r = h r := fun r n => by rw [hset_ne _ _ _ n, hset_ne _ _ _ n, hset_ne _ _ _ n]
    have s3 : hset (hset (hset h 55 3 (nI u)) 55 1 (-1)) 55 2 (-1) 55 3 = nI u := by rw [hset_at, upd_ne _ _ (by decide), hset_at, upd_ne _ _ (by decide), hset_at, upd_at]
    have s1 : hset (hset (hset h 55 3 (nI u)) 55 1 (-1)) 55 2 (-1) 55 1 = -1 := by rw [hset_at, upd_ne _ _ (by decide), hset_at, upd_at]
    have s2 : hset (hset (hset h 55 3 (nI u)) 55 1 (-1)) 55 2 (-1) 55 2 = -1 := by rw [hset_at, upd_at]
    generalize hset (hset (hset h 55 3 (nI u)) 55 1 (-1)) 55 2 (-1) = g at o s1 s2 s3 ⊢
    have hc : cR (sR a) g := cR_of (fun r hr => o r (fun z => by subst z; revert hr; decide)) hC.2.2.1
    have g10 : g 10 10 = iI ((rWw (sR a) : Int) - 1) := hc.1.2.2.2.2.2.2.2.2.2.1
    have g8 : g 10 8 = iI ((rG (sR a) : Int) - 1) := hc.1.2.2.2.2.2.2.2.1
    have ww : rWw (sR a) ≤ 4 := hW.2.2.2.2.2.2.2.2.2.1
    have no : ∀ r, r ∉ ([55, 56] : List Nat) → g r = h r := fun r hr => o r (ne_of_nm hr (by decide))
    by_cases w0 : rWw (sR a) = 0
    · rw [g10, w0, if_pos (by decide)]
      exact ⟨g, rfl, no, s3, .inr ⟨.inl w0, s1, s2⟩⟩
    · rw [g10, if_neg (fun q => by have := (iI_eq_iff (b := -1) (by omega) (by omega) (by omega) (by omega)).mp q; omega)]
      by_cases g0 : rG (sR a) = 0
      · rw [g8, g0, if_pos (by decide)]
        exact ⟨g, rfl, no, s3, .inr ⟨.inr (srw_no g0 30 u), s1, s2⟩⟩
      · have gw := (goal_W hW g0).2
        rw [g8, if_neg (fun q => by have := (iI_eq_iff (b := -1) (by omega) (by omega) (by omega) (by omega)).mp q; omega)]
        -- the first table
        obtain ⟨t1, l1, p1, p2⟩ := loopN_fx (fun z_ : Int32 × Hp => K_Gusts_look_L57 N (nI u) z_.1 z_.2) (fun i s => s.1 = nI i ∧ (∀ r, r ≠ 56 → s.2 r = g r) ∧ ∀ x, x < i → s.2 56 x = nI (if isG (sR a) x = true then 0 else 99)) 384 (fun t => (∀ r, r ≠ 56 → t r = g r) ∧ ∀ x, x < 384 → t 56 x = nI (if isG (sR a) x = true then 0 else 99)) (fun i s hi hJ => by
            obtain ⟨x1, f⟩ := s
            obtain ⟨e1, e2, e3⟩ := hJ
            have e1 : x1 = nI i := e1
            have e2 : ∀ r, r ≠ 56 → f r = g r := e2
            have e3 : ∀ x, x < i → f 56 x = nI (if isG (sR a) x = true then 0 else 99) := e3
            have hc2 : cR (sR a) f := cR_of (fun r hr => e2 r (fun z => by subst z; revert hr; decide)) hc
            refine ⟨(nI (i + 1), hset f 56 i (nI (if isG (sR a) i = true then 0 else 99))), ?_, rfl, fun r hr => ?_, fun x hx => ?_⟩
            · show K_Gusts_look_L57 N (nI u) x1 f = _
              unfold K_Gusts_look_L57 K_Gusts_look_J88
              rw [e1, if_neg (fun q => by have := (nI_le_iff (a := 384) (by omega) (by omega)).mp q; omega), isGoalK hW hc2.1 hi, bd_s, sA_nI (by omega) (by omega), sA_nI (by omega) (by omega), nI_cl (by omega), nm_s, nm_s, show nI i + 1 = nI (i + 1) from nI_add i 1, nm_s, nm_s]
              by_cases c : isG (sR a) i = true
              · rw [if_pos c, if_neg (by decide), if_pos c]; rfl
              · rw [if_neg c, if_pos rfl, if_neg c]; rfl
            · show hset f 56 i _ r = _
              rw [hset_ne _ _ _ hr]; exact e2 r hr
            · show hset f 56 i _ 56 x = _
              rw [hset_at]
              by_cases c : x = i
              · subst c; rw [upd_at]
              · rw [upd_ne _ _ c]; exact e3 x (by omega)) (fun s hJ => by
            obtain ⟨x1, f⟩ := s
            obtain ⟨e1, e2, e3⟩ := hJ
            have e1 : x1 = nI 384 := e1
            refine ⟨f, ?_, e2, e3⟩
            show K_Gusts_look_L57 N (nI u) x1 f = _
            unfold K_Gusts_look_L57
            rw [e1, if_pos (by decide)]) (s0 := (0, g)) ⟨rfl, fun _ _ => rfl, fun x hx => absurd hx (Nat.not_lt_zero _)⟩ (N := N) (by omega)
        rw [l1, bd_s]
        have hT0 : wT (sR a) 1 0 t1 := fun x hx _ => by
          rw [p2 x hx]
          have z := sD_0 (ρ := sR a) (u := x)
          congr 1
          by_cases c : isG (sR a) x = true
          · have := z.mpr c
            rw [if_pos c, if_pos (by omega), this]
          · have : ¬ sD (sR a) x = 0 := fun q => c (z.mp q)
            rw [if_neg c, if_neg (by omega)]
        -- wider and wider
        obtain ⟨t2, l2, p3, n, n1, n2, p4, p5⟩ := loopN_inv (fun z_ : Int32 × Int32 × Hp => K_Gusts_look_L101 N (nI u) z_.1 z_.2.1 z_.2.2) (fun s => ∃ v n f, s = (v, nI n, f) ∧ 1 ≤ n ∧ n ≤ 31 ∧ (∀ r, r ≠ 56 → f r = g r) ∧ wT (sR a) n 0 f ∧ (v = 1 ∨ (v = 0 ∧ 2 ≤ n ∧ ∀ x, okS (sR a) (x / 8) → x < 384 → sD (sR a) x ≠ n - 1))) (fun s => 31 - s.2.1.toNatClampNeg) (fun t => (∀ r, r ≠ 56 → t r = g r) ∧ ∃ n, 1 ≤ n ∧ n ≤ 31 ∧ wT (sR a) n 0 t ∧ (sD (sR a) u < n ∨ sD (sR a) u = 31)) (fun s hI => by
            obtain ⟨v, n, f, e, q1, q2, q3, q4, q5⟩ := hI
            subst e
            have sb := sD_b (sR a) u
            have hc2 : cR (sR a) f := cR_of (fun r hr => q3 r (fun z => by subst z; revert hr; decide)) hc
            show (∃ s', K_Gusts_look_L101 N (nI u) v (nI n) f = some (.inl s') ∧ _) ∨ (∃ t, K_Gusts_look_L101 N (nI u) v (nI n) f = some (.inr t) ∧ _)
            unfold K_Gusts_look_L101
            by_cases c1 : 30 < n
            · right
              refine ⟨f, by rw [if_pos (show (30 : Int32) < nI n from (nI_lt_iff (a := 30) (by omega) (by omega)).mpr c1)], q3, n, q1, q2, q4, by omega⟩
            · rw [if_neg (show ¬ (30 : Int32) < nI n from fun z => c1 ((nI_lt_iff (a := 30) (by omega) (by omega)).mp z))]
              rcases q5 with q5 | ⟨q5, q6, q7⟩
              · rw [q5, if_neg (by decide), gA_nI (by omega) (by omega), q4 u hu hs]
                by_cases c2 : sD (sR a) u < n
                · right
                  refine ⟨f, ?_, q3, n, q1, q2, q4, .inl c2⟩
                  rw [if_pos (show sD (sR a) u < n ∨ sD (sR a) u = n ∧ u < 0 from .inl c2), if_neg (fun z => by have := (nI_eq_iff (b := 99) (by omega) (by omega)).mp z; omega)]
                · left
                  rw [if_neg (show ¬ (sD (sR a) u < n ∨ sD (sR a) u = n ∧ u < 0) by omega), if_pos (show nI 99 = 99 from rfl)]
                  obtain ⟨v', f', z1, z2, z3, z4⟩ := widenK hW N (by omega) hc2 ⟨q1, by omega⟩ q4
                  refine ⟨(v', nI (n + 1), f'), ?_, ⟨v', n + 1, f', rfl, by omega, by omega, fun r hr => (z2 r hr).trans (q3 r hr), z3, ?_⟩, ?_⟩
                  · rw [z1, bd2_s, show nI n + 1 = nI (n + 1) from nI_add n 1, nm_s]
                  · rcases z4 with z4 | ⟨z4, z5⟩
                    · exact .inl z4
                    · exact .inr ⟨z4, by omega, z5⟩
                  · show 31 - (nI (n + 1)).toNatClampNeg < 31 - (nI n).toNatClampNeg
                    rw [nI_cl (by omega), nI_cl (by omega)]
                    omega
              · right
                refine ⟨f, by rw [q5, if_pos rfl], q3, n, q1, q2, q4, ?_⟩
                have := sD_stop q7 ⟨by omega, by omega⟩ u hs hu
                omega) N (1, 1, t1) ⟨1, 1, t1, rfl, by omega, by omega, p1, hT0, .inl rfl⟩ (by show 31 - _ < N; omega)
        rw [l2, bd_s]
        have hc3 : cR (sR a) t2 := cR_of (fun r hr => p3 r (fun z => by subst z; revert hr; decide)) hc
        have no2 : ∀ r, r ∉ ([55, 56] : List Nat) → t2 r = h r := fun r hr => (p3 r (ne_of_nm hr (by decide))).trans (no r hr)
        unfold K_Gusts_look_J140
        rw [gA_nI (by omega) (by omega), p4 u hu hs]
        by_cases c2 : sD (sR a) u < n
        · rw [if_pos (show sD (sR a) u < n ∨ sD (sR a) u = n ∧ u < 0 from .inl c2), if_neg (fun z => by have := (nI_eq_iff (b := 99) (by omega) (by omega)).mp z; omega), gA_nI (by omega) (by omega), p4 u hu hs, if_pos (show sD (sR a) u < n ∨ sD (sR a) u = n ∧ u < 0 from .inl c2), nm_s]
          have v1 : hset t2 55 1 (nI (sD (sR a) u)) 55 1 = nI (sD (sR a) u) := by rw [hset_at, upd_at]
          have hc4 : cR (sR a) (hset t2 55 1 (nI (sD (sR a) u))) := cR_of (fun r hr => hset_ne _ _ _ (fun z => by subst z; revert hr; decide)) hc3
          have hT4 : wT (sR a) n 0 (hset t2 55 1 (nI (sD (sR a) u))) := wT_of (hset_ne _ _ _ (by decide)) p4
          have s4 : srw (sR a) (sD (sR a) u) u = true := (sD_le (by omega)).mp (Nat.le_refl _)
          have s5 : ∀ j, j < sD (sR a) u → srw (sR a) j u = false := fun j hj => fs_lt (fun n => srw (sR a) n u) hj
          rw [v1]
          have fin : ∀ x : Int32, K_Gusts_surePair N (nI u) (nI (sD (sR a) u)) (hset t2 55 1 (nI (sD (sR a) u))) = some x → x = (if sD (sR a) u = 0 then -1 else nI (srp (sR a) (sD (sR a) u - 1) u)) → ∃ h1, (bd (K_Gusts_surePair N (nI u) (nI (sD (sR a) u)) (hset t2 55 1 (nI (sD (sR a) u)))) fun v169 => nm (hset (hset t2 55 1 (nI (sD (sR a) u))) 55 2 v169) fun h172 => some h172) = some h1 ∧ (∀ r, r ∉ ([55, 56] : List Nat) → h1 r = h r) ∧ h1 55 3 = nI u ∧ GRes (sR a) u h1 := by
            intro x e1 e2
            rw [e1, bd_s, nm_s]
            refine ⟨_, rfl, fun r hr => ?_, ?_, .inl ⟨w0, sD (sR a) u, by omega, s4, s5, ?_, ?_⟩⟩
            · rw [hset_ne _ _ _ (ne_of_nm hr (by decide)), hset_ne _ _ _ (ne_of_nm hr (by decide))]; exact no2 r hr
            · rw [hset_at, upd_ne _ _ (by decide), hset_at, upd_ne _ _ (by decide), p3 55 (by decide)]; exact s3
            · rw [hset_at, upd_ne _ _ (by decide)]; exact v1
            · rw [hset_at, upd_at]; exact e2
          by_cases d0 : sD (sR a) u = 0
          · refine fin (-1) ?_ (by rw [if_pos d0])
            have := surePair0 (k := k) (h := h) hW N (by omega) hc4 hu hs hT4
            rw [d0] at this ⊢
            exact this
          · obtain ⟨j, ej⟩ : ∃ j, sD (sR a) u = j + 1 := ⟨sD (sR a) u - 1, by omega⟩
            have e := surePairK (k := k) (h := h) hW N (by omega) hc4 hu hs (n := j) (by omega) (show j + 1 ≤ n by omega) hT4
            have st := (sD_step (ρ := sR a) (n := j) (u := u) (by omega) (by omega)).mp ej
            obtain ⟨p, a1, a2⟩ := st
            have fl : fs (sP (sR a) j u) 16 < 16 := by
              by_cases c : fs (sP (sR a) j u) 16 < 16
              · exact c
              · have := fs_lt (sP (sR a) j u) (e := 16) (j := p) (by omega)
                rw [a2] at this
                exact absurd this (by decide)
            rw [if_pos fl] at e
            rw [ej] at e fin ⊢
            refine fin _ e ?_
            rw [if_neg (by omega), show j + 1 - 1 = j by omega, srp_fs fl]
        · have d31 : sD (sR a) u = 31 := by rcases p5 with q | q; exact absurd q c2; exact q
          rw [if_neg (show ¬ (sD (sR a) u < n ∨ sD (sR a) u = n ∧ u < 0) by omega), if_pos (show nI 99 = 99 from rfl)]
          refine ⟨t2, rfl, no2, by rw [p3 55 (by decide)]; exact s3, .inr ⟨.inr ?_, by rw [p3 55 (by decide)]; exact s1, by rw [p3 55 (by decide)]; exact s2⟩⟩
          refine Bool.eq_false_iff.mpr (fun z => ?_)
          have := (sD_le (ρ := sR a) (n := 30) (u := u) (by omega)).mpr z
          omega

/-! habits told -/
def frH (g g' : Hp) : Prop := (∀ r, r ≠ 70 → r ≠ 12 → g' r = g r) ∧ ∀ x, x ∉ ([3, 5, 6, 7] : List Nat) → g' 70 x = g 70 x
theorem cX_of {tx : List Nat} {F : Nat} {P : Int32} {p : Nat} {g g' : Hp} (e1 : g' 70 = g 70) (e2 : g' 2 = g 2) (h : cX tx F P p g) : cX tx F P p g' := by
  unfold cX cLx at h ⊢
  rw [e1, e2]
  exact h
theorem mX_of {tx : List Nat} {P : Int32} {p : Nat} {f f' : Hp} (e1 : f' 100 = f 100) (e2 : f' 106 = f 106) (h : mX tx P p f) : mX tx P p f' := by
  unfold mX mLx at h ⊢
  rw [e1, e2]
  exact h
theorem habC {tx : List Nat} (hX : okX tx) {P : Int32} {p : Nat} {g : Hp} (h : cX tx 0 P p g) (N : Nat) (hN : 200 < N) : ∃ g', K_Reader_readHabits N g = some g' ∧ frH g g' ∧ ((bdl tx 2 p 8 = 8 ∧ cX tx 0 P (psq tx p 8) g' ∧ ∀ j, j < 8 → g' 12 j = nI (kk tx 2 (skp tx (psq tx p j)))) ∨ (bdl tx 2 p 8 < 8 ∧ ∃ p', cX tx 1 (nI (skp tx (psq tx p (bdl tx 2 p 8)))) p' g')) := by
  have e8 : bdl tx 2 p 8 ≤ 8 := fs_le _ 8
  generalize ee : bdl tx 2 p 8 = e at e8 ⊢
  have okk : ∀ n, n < e → lt tx 2 (skp tx (psq tx p n)) ≠ -1 := fun n hn => bdl_ok (by rw [ee]; exact hn)
  have obad : e < 8 → lt tx 2 (skp tx (psq tx p e)) = -1 := fun c => by
    have := bdl_bad (tx := tx) (i := 2) (p := p) (e := 8) (by rw [ee]; exact c)
    rw [ee] at this
    exact this
  obtain ⟨t, l1, f1, f2⟩ := loopN_fx (fun z_ : Int32 × Hp => K_Reader_readHabits_L2 N z_.1 z_.2) (fun i s => ∃ g', s = (nI i, g') ∧ frH g g' ∧ ((i ≤ e ∧ cX tx 0 P (psq tx p i) g' ∧ ∀ j, j < i → g' 12 j = nI (kk tx 2 (skp tx (psq tx p j)))) ∨ (e < i ∧ ∃ p', cX tx 1 (nI (skp tx (psq tx p e))) p' g'))) 8 (fun t => frH g t ∧ ((e = 8 ∧ cX tx 0 P (psq tx p 8) t ∧ ∀ j, j < 8 → t 12 j = nI (kk tx 2 (skp tx (psq tx p j)))) ∨ (e < 8 ∧ ∃ p', cX tx 1 (nI (skp tx (psq tx p e))) p' t))) (fun i s hi hJ => by
      obtain ⟨g1, es, fr, hc⟩ := hJ
      subst es
      have step : ∀ {F : Nat} {Q : Int32} {q : Nat}, cX tx F Q q g1 → ∃ k g2, K_Reader_readHabits_L2 N (nI i) g1 = some (.inl (nI (i + 1), hset g2 12 i (nI k))) ∧ frH g (hset g2 12 i (nI k)) ∧ (∀ j, j < i → (hset g2 12 i (nI k)) 12 j = g1 12 j) ∧ ((lt tx 2 (skp tx q) = -1 ∧ cX tx (ffl F Q 1 (skp tx q)).1 (ffl F Q 1 (skp tx q)).2 (skp tx q) (hset g2 12 i (nI k))) ∨ (lt tx 2 (skp tx q) ≠ -1 ∧ k = kk tx 2 (skp tx q) ∧ cX tx F Q (skp tx q + 1) (hset g2 12 i (nI k)))) := by
        intro F Q q hq
        obtain ⟨k, g2, a1, a2, a3, a4⟩ := oneC hX hq N hN (i := 2) (by decide)
        refine ⟨k, g2, ?_, ⟨fun r h1 h2 => (hset_ne _ _ _ h2).trans ((a2.1 r h1).trans (fr.1 r h1 h2)), fun x hx => by rw [hset_ne _ _ _ (by decide)]; exact (a2.2 x hx).trans (fr.2 x hx)⟩, fun j hj => by rw [hset_at, upd_ne _ _ (by omega), a2.1 12 (by decide)], ?_⟩
        · unfold K_Reader_readHabits_L2
          rw [if_neg (show ¬ (8 : Int32) ≤ nI i from fun z => by have := (nI_le_iff (a := 8) (by omega) (by omega)).mp z; omega), a1, bd2_s, sA_nI (by omega) (by omega), nI_cl (by omega), nm_s, show nI i + 1 = nI (i + 1) from nI_add i 1, nm_s]
        · rcases a4 with ⟨b1, b2⟩ | ⟨b1, b2, b3⟩
          · exact .inl ⟨b1, cX_of (hset_ne _ _ _ (by decide)) (hset_ne _ _ _ (by decide)) b2⟩
          · exact .inr ⟨b1, b2, cX_of (hset_ne _ _ _ (by decide)) (hset_ne _ _ _ (by decide)) b3⟩
      rcases hc with ⟨c1, c2, c3⟩ | ⟨c1, p', c2⟩
      · obtain ⟨k, g2, s1, s2, s3, s4⟩ := step c2
        refine ⟨_, s1, _, rfl, s2, ?_⟩
        by_cases ce : i < e
        · rcases s4 with ⟨b1, _⟩ | ⟨b1, b2, b3⟩
          · exact absurd b1 (okk i ce)
          · refine .inl ⟨ce, b3, fun j hj => ?_⟩
            by_cases cj : j = i
            · rw [cj, hset_at, upd_at, b2]
            · rw [s3 j (by omega)]; exact c3 j (by omega)
        · have ie : i = e := by omega
          subst ie
          rcases s4 with ⟨b1, b2⟩ | ⟨b1, _⟩
          · exact .inr ⟨Nat.lt_succ_self _, _, b2⟩
          · exact absurd (obad hi) b1
      · obtain ⟨k, g2, s1, s2, s3, s4⟩ := step c2
        refine ⟨_, s1, _, rfl, s2, .inr ⟨by omega, ?_⟩⟩
        rcases s4 with ⟨b1, b2⟩ | ⟨b1, b2, b3⟩
        · exact ⟨_, b2⟩
        · exact ⟨_, b3⟩) (fun s hJ => by
      obtain ⟨g1, es, fr, hc⟩ := hJ
      subst es
      refine ⟨g1, ?_, fr, ?_⟩
      · show K_Reader_readHabits_L2 N (nI 8) g1 = _
        unfold K_Reader_readHabits_L2
        rw [if_pos (by decide)]
      · rcases hc with ⟨c1, c2, c3⟩ | ⟨c1, c2⟩
        · exact .inl ⟨by omega, c2, c3⟩
        · exact .inr ⟨c1, c2⟩) (s0 := (0, g)) ⟨g, rfl, ⟨fun _ _ _ => rfl, fun _ _ => rfl⟩, .inl ⟨Nat.zero_le _, h, fun j hj => absurd hj (Nat.not_lt_zero _)⟩⟩ (N := N) (by omega)
  refine ⟨t, ?_, f1, f2⟩
  unfold K_Reader_readHabits
  rw [l1, bd_s]
theorem habM {tx : List Nat} (hX : okX tx) {P : Int32} {p : Nat} {f : Hp} (h : mX tx P p f) (N : Nat) (hN : 200 < N) : ∃ f', K_M_takeHabits N f = some f' ∧ frR f f' ∧ f' 103 = f 103 ∧ f' 104 = f 104 ∧ ((bdl tx 2 p 8 = 8 ∧ mX tx P (psq tx p 8) f' ∧ ∀ j, j < 8 → f' 105 (8 + j) = nI (kk tx 2 (skp tx (psq tx p j)))) ∨ (bdl tx 2 p 8 < 8 ∧ f' 100 10 = nI 1 ∧ f' 100 11 = nI (skp tx (psq tx p (bdl tx 2 p 8))))) := by
  have n64 := hX.1
  have pl := h.1.2.2.1
  have e8 : bdl tx 2 p 8 ≤ 8 := fs_le _ 8
  have psl := psq_le (tx := tx) (i := 2) (p := p) (e := 8) (by decide) pl
  generalize ee : bdl tx 2 p 8 = e at e8 psl ⊢
  have okk : ∀ n, n < e → lt tx 2 (skp tx (psq tx p n)) ≠ -1 := fun n hn => bdl_ok (by rw [ee]; exact hn)
  have obad : e < 8 → lt tx 2 (skp tx (psq tx p e)) = -1 := fun c => by
    have := bdl_bad (tx := tx) (i := 2) (p := p) (e := 8) (by rw [ee]; exact c)
    rw [ee] at this
    exact this
  obtain ⟨t, l1, f1, f2, f3, f4⟩ := loopN_fx (fun z_ : Int32 × Hp => K_M_takeHabits_L2 N z_.1 z_.2) (fun i s => ∃ f', s = (nI i, f') ∧ frR f f' ∧ f' 103 = f 103 ∧ f' 104 = f 104 ∧ ((i ≤ e ∧ mX tx P (psq tx p i) f' ∧ ∀ j, j < i → f' 105 (8 + j) = nI (kk tx 2 (skp tx (psq tx p j)))) ∨ (i = e + 1 ∧ e < 8 ∧ f' 100 10 = nI 1 ∧ f' 100 11 = nI (skp tx (psq tx p e))))) (min (e + 1) 8) (fun t => frR f t ∧ t 103 = f 103 ∧ t 104 = f 104 ∧ ((e = 8 ∧ mX tx P (psq tx p 8) t ∧ ∀ j, j < 8 → t 105 (8 + j) = nI (kk tx 2 (skp tx (psq tx p j)))) ∨ (e < 8 ∧ t 100 10 = nI 1 ∧ t 100 11 = nI (skp tx (psq tx p e))))) (fun i s hi hJ => by
      obtain ⟨g1, es, fr, f3, f4, hc⟩ := hJ
      subst es
      rcases hc with ⟨c1, c2, c3⟩ | ⟨c1, _⟩
      · obtain ⟨g2, a1, a2, a3⟩ := hereX hX c2 N hN
        have k8 : ¬ (8 : Int32) ≤ nI i := fun z => by have := (nI_le_iff (a := 8) (by omega) (by omega)).mp z; omega
        by_cases ce : i < e
        · have ne := okk i ce
          have ng : ¬ lt tx 2 (skp tx (psq tx p i)) < 0 := fun z => ne ((lt_neg hX (by decide) _).mp z)
          have lin := lt_in (by decide) ne
          rcases lt_or hX (i := 2) (by decide) (skp tx (psq tx p i)) with z | ⟨ek, bk⟩
          · exact absurd z ne
          refine ⟨(nI (i + 1), hset (hset g2 105 (8 + i) (nI (kk tx 2 (skp tx (psq tx p i))))) 100 8 (nI (skp tx (psq tx p i) + 1))), ?_, _, rfl, ?_, ?_, ?_, .inl ⟨ce, ?_, fun j hj => ?_⟩⟩
          · show K_M_takeHabits_L2 N (nI i) g1 = _
            unfold K_M_takeHabits_L2
            rw [if_neg k8, if_pos c2.2.1, a1, bd2_s, strokeH hX, bd_s, if_neg ng]
            unfold K_M_takeHabits_J33
            rw [want1 a3.2.1, bd2_s, if_neg (by decide), show (8 : Int32) + nI i = nI (8 + i) from nI_add 8 i, sA_nI (by omega) (by omega), nI_cl (by omega), nm_s, hset_ne _ _ _ (by decide), a3.1.2.1, show nI (skp tx (psq tx p i)) + 1 = nI (skp tx (psq tx p i) + 1) from nI_add _ 1, nm_s, show nI i + 1 = nI (i + 1) from nI_add i 1, nm_s, ek]
          · have r1 := frR_set (frR_trans fr (frR_M a2)) (r := 105) (by decide) (8 + i) (nI (kk tx 2 (skp tx (psq tx p i)))) ⟨fun z => absurd z (by decide), fun z => absurd z (by decide), fun _ => by omega⟩
            exact frR_100 r1 (by decide) _
          · rw [hset_ne _ _ _ (by decide), hset_ne _ _ _ (by decide), a2.1 103 (by decide)]; exact f3
          · rw [hset_ne _ _ _ (by decide), hset_ne _ _ _ (by decide), a2.1 104 (by decide)]; exact f4
          · have m1 : mX tx P (skp tx (psq tx p i)) (hset g2 105 (8 + i) (nI (kk tx 2 (skp tx (psq tx p i))))) := mX_of (hset_ne _ _ _ (by decide)) (hset_ne _ _ _ (by decide)) a3
            exact ⟨mLx_at m1.1 lin, by rw [hset_at, upd_ne _ _ (by decide)]; exact m1.2.1, by rw [hset_at, upd_ne _ _ (by decide)]; exact m1.2.2⟩
          · rw [hset_ne _ _ _ (by decide), hset_at]
            by_cases cj : j = i
            · rw [cj, upd_at]
            · rw [upd_ne _ _ (by omega), a2.1 105 (by decide)]; exact c3 j (by omega)
        · have ie : i = e := by omega
          have b := obad (by omega)
          rw [← ie] at b
          obtain ⟨g3, w1, w2, w3, w4⟩ := wantX a3 false (n := 1) (by omega) (g2 100 8)
          have w1 : K_M_want 0 1 (g2 100 8) g2 = some (0, g3) := w1
          obtain ⟨w5, w6⟩ := w4 rfl
          refine ⟨(nI (i + 1), g3), ?_, _, rfl, frR_trans fr (frR_M (frM_trans a2 w2)), by rw [w2.1 103 (by decide), a2.1 103 (by decide)]; exact f3, by rw [w2.1 104 (by decide), a2.1 104 (by decide)]; exact f4, .inr ⟨by omega, by omega, w5, by rw [w6, a3.1.2.1, ie]⟩⟩
          show K_M_takeHabits_L2 N (nI i) g1 = _
          unfold K_M_takeHabits_L2
          rw [if_neg k8, if_pos c2.2.1, a1, bd2_s, strokeH hX, bd_s, if_pos ((lt_neg hX (by decide) _).mpr b)]
          unfold K_M_takeHabits_J33
          rw [w1, bd2_s, if_pos rfl, show nI i + 1 = nI (i + 1) from nI_add i 1, nm_s]
      · omega) (fun s hJ => by
      obtain ⟨g1, es, fr, f3, f4, hc⟩ := hJ
      subst es
      rcases hc with ⟨c1, c2, c3⟩ | ⟨c1, c2, c3, c4⟩
      · have e1 : min (e + 1) 8 = 8 := by omega
        have e2 : e = 8 := by omega
        rw [e1] at c2 c3
        refine ⟨g1, ?_, fr, f3, f4, .inl ⟨e2, c2, c3⟩⟩
        rw [e1]
        show K_M_takeHabits_L2 N (nI 8) g1 = _
        unfold K_M_takeHabits_L2
        rw [if_pos (by decide)]
      · refine ⟨g1, ?_, fr, f3, f4, .inr ⟨c2, c3, c4⟩⟩
        show K_M_takeHabits_L2 N (nI (min (e + 1) 8)) g1 = _
        unfold K_M_takeHabits_L2
        rw [c3]
        by_cases c : (8 : Int32) ≤ nI (min (e + 1) 8)
        · rw [if_pos c]
        · rw [if_neg c, if_neg (by decide)]) (s0 := (0, f)) ⟨f, rfl, frR_refl f, rfl, rfl, .inl ⟨Nat.zero_le _, h, fun j hj => absurd hj (Nat.not_lt_zero _)⟩⟩ (N := N) (by omega)
  refine ⟨t, ?_, f1, f2, f3, f4⟩
  unfold K_M_takeHabits
  rw [l1, bd_s]
theorem JJ_cm {tx : List Nat} {P : Int32} {p : Nat} {g f : Hp} (h1 : cX tx 0 P p g) (h2 : mX tx P p f) : JJ tx 0 P p g f := ⟨h1.1, h1.2.1, h1.2.2.1, h1.2.2.2, h2.2.1, h2.2.2, fun _ => h2.1⟩
theorem cX_J {tx : List Nat} {F : Nat} {P : Int32} {p : Nat} {g f : Hp} (h : JJ tx F P p g f) : cX tx F P p g := ⟨h.1, h.2.1, h.2.2.1, h.2.2.2.1⟩
theorem mX_J {tx : List Nat} {P : Int32} {p : Nat} {g f : Hp} (h : JJ tx 0 P p g f) : mX tx P p f := ⟨h.2.2.2.2.2.2 rfl, h.2.2.2.2.1, h.2.2.2.2.2.1⟩
theorem habJ {tx : List Nat} (hX : okX tx) {P : Int32} {p : Nat} {g f : Hp} (h : JJ tx 0 P p g f) (N : Nat) (hN : 200 < N) {ρ : Rv} (hW : WF ρ) (h0 : rW ρ ≠ 0) (hR : RC ρ g) {bt : Prop} (hM : RH ρ bt f) : ∃ g' f', K_Reader_readHabits N g = some g' ∧ K_M_takeHabits N f = some f' ∧ CE tx P bt g f g' f' := by
  obtain ⟨g', a1, a2, a3⟩ := habC hX (cX_J h) N hN
  obtain ⟨f', b1, b2, b3, b4, b5⟩ := habM hX (mX_J h) N hN
  have fk : frK g g' := ⟨fun r hr => a2.1 r (ne_of_nm hr (by decide)) (ne_of_nm hr (by decide)), a2.2 4 (by decide)⟩
  refine ⟨g', f', a1, b1, fk, b2, ?_⟩
  rcases a3 with ⟨c1, c2, c3⟩ | ⟨c1, p', c2⟩
  · rcases b5 with ⟨d1, d2, d3⟩ | ⟨d1, _⟩
    · refine ⟨0, P, _, JJ_cm c2 d2, fun _ => ⟨rfl, (ρ.1, ρ.2.1, fun j => if j < 8 then kk tx 2 (skp tx (psq tx p j)) else 0), ?_, h0, ?_, ?_⟩⟩
      · obtain ⟨q0, q1, q2, q3, q4, q5, q6, q7, q8, q9, q10, q11, q12, q13, q14, q15, q16, q17⟩ := hW
        refine ⟨q0, q1, q2, q3, q4, q5, q6, q7, q8, q9, q10, q11, q12, q13, fun j => ?_, q15, q16, q17⟩
        show (if j < 8 then kk tx 2 (skp tx (psq tx p j)) else 0) ≤ 3
        by_cases cj : j < 8
        · rw [if_pos cj]
          rcases lt_or hX (i := 2) (by decide) (skp tx (psq tx p j)) with z | ⟨_, bk⟩
          · exact absurd z (bdl_ok (e := 8) (by rw [c1]; exact cj))
          · exact bk
        · rw [if_neg cj]; exact Nat.zero_le _
      · obtain ⟨q0, q1, q2, q3, q4, q5, q6, q7, q8, q9, q10, q11, q12⟩ := hR
        have e10 : g' 10 = g 10 := a2.1 10 (by decide) (by decide)
        have e11 : g' 11 = g 11 := a2.1 11 (by decide) (by decide)
        unfold RC
        rw [e10, e11]
        exact ⟨q0, q1, q2, q3, q4, q5, q6, q7, q8, q9, q10, q11, fun j hj => (c3 j hj).trans (congrArg nI (if_pos hj).symm)⟩
      · obtain ⟨q0, q1, q2, q3, q4, q5, q6⟩ := hM
        unfold RH
        rw [b3, b4]
        exact ⟨q0, q1, q2, q3, fun j hj => (d3 j hj).trans (congrArg nI (if_pos hj).symm), q5, q6⟩
    · omega
  · rcases b5 with ⟨d1, _⟩ | ⟨d1, d2, d3⟩
    · omega
    · exact ⟨1, _, p', ⟨c2.1, c2.2.1, c2.2.2.1, c2.2.2.2, d2, d3, fun z => absurd z (by decide)⟩, fun z => absurd z (by decide)⟩

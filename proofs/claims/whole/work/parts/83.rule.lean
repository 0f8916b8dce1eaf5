/-! rules, judge -/
theorem stepC {k : Nat} {a : St} {h : Hp} (hW : WF (sR a)) (hC : IC k a h) {m p : Nat} (hm : okM (sR a) m) (hp : p < 16) : K_Crew_after (nI m) (nI p) h = some (nI (aft (sR a) 0 m p)) := afterK hW hC.2.2.1.2.1 (by omega) hC.2.2.1.2.2 hm.1 hp
theorem stepM {a : St} {h g : Hp} (hW : WF (sR a)) (N : Nat) (hN : 200 < N) (hM : IM a h) (e : sameM h g) {m p : Nat} (hm : okM (sR a) m) (hp : p < 16) : ∃ g', K_M_after N (nI (eM (sR a) m)) (nI (p / 4)) (nI (p % 4)) g = some (nI (eM (sR a) (aft (sR a) 0 m p)), g') ∧ sameM h g' ∧ ∀ r, r ≠ 100 → g' r = g r := by
  obtain ⟨q1, q2, q3⟩ := IM_keep hM e
  exact ⟨_, afterM hW N (by omega) q2 (kn := 0) (by omega) q3 hm.1 (okS_in hW hm.2) hp, sameM_tr e (sameM_nx _ _ _), fun r hr => nx_ne _ _ _ hr⟩
theorem goalStM {a : St} {h g : Hp} (hW : WF (sR a)) (hM : IM a h) (e : sameM h g) {m : Nat} (hm : okM (sR a) m) : K_M_isGoalState (nI (eM (sR a) m)) g = some (if isG (sR a) (m % 384) = true then 1 else 0) := by
  obtain ⟨q1, q2, q3⟩ := IM_keep hM e
  obtain ⟨d1, d2⟩ := eM_q hW hm
  have hs := okS_in hW hm.2
  have hcl := cM_lt hW hs
  have tb := tmv_b hW
  have w : rW (sR a) ≠ 0 := fun z => by have := hs.1; omega
  unfold K_M_isGoalState
  rw [timesM hW q2, bd_s, dz_nI (by omega) (by omega), d1, nm_s, show (8 : Int32) = nI 8 from rfl, nI_div (by omega) (by omega) (by omega), nI_rem (by omega) (by omega) (by omega), show (8 * cM (sR a) (m % 384 / 8) + m % 8) / 8 = cM (sR a) (m % 384 / 8) by omega, show (8 * cM (sR a) (m % 384 / 8) + m % 8) % 8 = m % 8 by omega, isGoalM hW q2 ⟨fun z => absurd z w, fun _ => hs⟩ (by omega), bd_s, show 8 * (m % 384 / 8) + m % 8 = m % 384 by omega]
  generalize isG (sR a) (m % 384) = b
  cases b <;> rfl
def byR (r o : Nat) : Nat := if r = 0 then 0 else if r = 1 then 1 else if r = 2 then o else if o = 0 then 1 else if o = 1 then 0 else o
theorem byR_lt {r o : Nat} (h : o < 4) : byR r o < 4 := by unfold byR; split; omega; split; omega; split; omega; split; omega; split <;> omega
theorem byRC : ∀ r, r < 4 → ∀ o, o < 4 → K_C_byRule (nI r) (nI o) = some (nI (byR r o)) := by decide +kernel
theorem byRM : ∀ r, r < 4 → ∀ o, o < 4 → K_M_byRule (nI r) (nI o) = some (nI (byR r o)) := by decide +kernel
abbrev Ru : Type := Nat × Nat × Nat
def ruS (ρ : Rv) (p : Nat) (z : Ru) : Ru := (aft ρ 0 z.1 (4 * z.2.1 + z.2.2), byR (p / 4) z.2.2, byR (p % 4) z.2.1)
def ruN (ρ : Rv) (p : Nat) (z : Ru) : Nat → Ru
  | 0 => z
  | i + 1 => ruS ρ p (ruN ρ p z i)
def okRu (ρ : Rv) (z : Ru) : Prop := okM ρ z.1 ∧ z.2.1 < 4 ∧ z.2.2 < 4
theorem ruN_ok {ρ : Rv} (hW : WF ρ) {p : Nat} {z : Ru} (h : okRu ρ z) : ∀ i, okRu ρ (ruN ρ p z i) := by
  intro i
  induction i with
  | zero => exact h
  | succ i ih => exact ⟨aft_ok hW ih.1, byR_lt ih.2.2, byR_lt ih.2.1⟩
def ruP (ρ : Rv) (p : Nat) (z : Ru) (i : Nat) : Bool := isG ρ ((ruN ρ p z i).1 % 384)
def ruF (ρ : Rv) (m p : Nat) : Nat := fs (ruP ρ p (m, 0, 0)) 61
theorem ruleC {k : Nat} {a : St} {h : Hp} (N : Nat) (hN : 200 < N) (hk : k ≤ 64) (hv : VS k a) (hC : IC k a h) (w : rW (sR a) ≠ 0) {p : Nat} (hp : p < 16) : K_C_strokesByRules N (nI p) h = some (if ruF (sR a) (mo (sR a) (sB a)) p = 61 then -1 else nI (ruF (sR a) (mo (sR a) (sB a)) p)) := by
  have hW := hv.1
  have hz : okRu (sR a) (mo (sR a) (sB a), 0, 0) := ⟨mo_ok hW hv.2.2.1.1 w, (by decide : (0 : Nat) < 4), (by decide : (0 : Nat) < 4)⟩
  have hzi := ruN_ok hW (p := p) hz
  unfold K_C_strokesByRules ruF
  rw [momentK hk hv hC, bd_s]
  obtain ⟨t, l1, l2⟩ := loopN_fs (fun z_ : Int32 × Int32 × Int32 × Int32 => K_C_strokesByRules_L13 N (nI p) z_.1 z_.2.1 z_.2.2.1 z_.2.2.2 h) (fun i s => s = (nI (ruN (sR a) p (mo (sR a) (sB a), 0, 0) i).1, nI (ruN (sR a) p (mo (sR a) (sB a), 0, 0) i).2.1, nI (ruN (sR a) p (mo (sR a) (sB a), 0, 0) i).2.2, nI i)) (ruP (sR a) p (mo (sR a) (sB a), 0, 0)) 61 (fun i t => t = .inl (nI i)) (fun t => t = .inr ()) (fun i s hi hJ hP => by
      subst hJ
      have o := hzi i
      have ml := okM_lt hW o.1
      refine ⟨_, ?_, rfl⟩
      show K_C_strokesByRules_L13 N (nI p) (nI _) (nI _) (nI _) (nI i) h = _
      unfold K_C_strokesByRules_L13
      have o2 := o.2.1
      have o3 := o.2.2
      rw [if_neg (fun q => by have := (nI_lt_iff (a := 60) (by omega) (by omega)).mp q; omega), show (384 : Int32) = nI 384 from rfl, nI_rem (by omega) (by omega) (by omega), isGoalK hW hC.2.2.1.1 (Nat.mod_lt _ (by omega)), bd_s, if_neg (show ¬ isG (sR a) ((ruN (sR a) p (mo (sR a) (sB a), 0, 0) i).1 % 384) = true from fun q => by rw [show ruP (sR a) p (mo (sR a) (sB a), 0, 0) i = true from q] at hP; exact absurd hP (by decide)), if_pos rfl, show (4 : Int32) = nI 4 from rfl, nI_mul, nI_add, stepC hW hC o.1 (by omega), bd_s, nI_div (by omega) (by omega) (by omega), nI_rem (by omega) (by omega) (by omega), byRC _ (by omega) _ o3, bd_s, byRC _ (by omega) _ o2, bd_s, show (1 : Int32) = nI 1 from rfl, nI_add, nm_s]
      rfl) (fun i s hi hJ hP => by
      subst hJ
      have o := hzi i
      have ml := okM_lt hW o.1
      refine ⟨_, ?_, rfl⟩
      show K_C_strokesByRules_L13 N (nI p) (nI _) (nI _) (nI _) (nI i) h = _
      unfold K_C_strokesByRules_L13
      rw [if_neg (fun q => by have := (nI_lt_iff (a := 60) (by omega) (by omega)).mp q; omega), show (384 : Int32) = nI 384 from rfl, nI_rem (by omega) (by omega) (by omega), isGoalK hW hC.2.2.1.1 (Nat.mod_lt _ (by omega)), bd_s, if_pos (show isG (sR a) _ = true from hP), if_neg (by decide)]) (fun s hJ => by
      subst hJ
      refine ⟨_, ?_, rfl⟩
      show K_C_strokesByRules_L13 N (nI p) (nI _) (nI _) (nI _) (nI 61) h = _
      unfold K_C_strokesByRules_L13
      rw [if_pos (by decide)]) rfl (N := N) (by omega)
  rw [show loopN (fun z_ : Int32 × Int32 × Int32 × Int32 => K_C_strokesByRules_L13 N (nI p) z_.1 z_.2.1 z_.2.2.1 z_.2.2.2 h) N (nI (mo (sR a) (sB a)), 0, 0, 0) = some t from l1, bd_s]
  rcases l2 with ⟨q1, q2⟩ | ⟨q1, q2⟩
  · rw [if_neg (by omega), q2]; rfl
  · rw [if_pos q1, q2]; rfl
theorem ruleM {k : Nat} {a : St} {h g : Hp} (N : Nat) (hN : 200 < N) (hk : k ≤ 64) (hv : VS k a) (hM : IM a h) (hg : sameM h g) (w : rW (sR a) ≠ 0) {p : Nat} (hp : p < 16) : ∃ g', K_M_strokesBy N (nI (p / 4)) (nI (p % 4)) g = some (if ruF (sR a) (mo (sR a) (sB a)) p = 61 then 99999999 else nI (ruF (sR a) (mo (sR a) (sB a)) p), g') ∧ sameM h g' := by
  have hW := hv.1
  have hz : okRu (sR a) (mo (sR a) (sB a), 0, 0) := ⟨mo_ok hW hv.2.2.1.1 w, (by decide : (0 : Nat) < 4), (by decide : (0 : Nat) < 4)⟩
  have hzi := ruN_ok hW (p := p) hz
  unfold K_M_strokesBy ruF
  rw [stateNowM hk hv (IM_keep hM hg).1 w, bd_s]
  obtain ⟨t, l1, l2⟩ := loopN_fs (fun z_ : Int32 × Int32 × Int32 × Int32 × Hp => K_M_strokesBy_L14 N (nI (p / 4)) (nI (p % 4)) z_.1 z_.2.1 z_.2.2.1 z_.2.2.2.1 z_.2.2.2.2) (fun i s => ∃ g', sameM h g' ∧ s = (nI (eM (sR a) (ruN (sR a) p (mo (sR a) (sB a), 0, 0) i).1), nI (ruN (sR a) p (mo (sR a) (sB a), 0, 0) i).2.1, nI (ruN (sR a) p (mo (sR a) (sB a), 0, 0) i).2.2, nI i, g')) (ruP (sR a) p (mo (sR a) (sB a), 0, 0)) 61 (fun i t => ∃ g', sameM h g' ∧ t = .inl (nI i, g')) (fun t => ∃ g', sameM h g' ∧ t = .inr g') (fun i s hi hJ hP => by
      obtain ⟨g1, hg1, hJ⟩ := hJ
      subst hJ
      have o := hzi i
      have ml := okM_lt hW o.1
      have o2 := o.2.1
      have o3 := o.2.2
      obtain ⟨g2, z1, z2, z3⟩ := stepM hW N hN hM hg1 (p := 4 * (ruN (sR a) p (mo (sR a) (sB a), 0, 0) i).2.1 + (ruN (sR a) p (mo (sR a) (sB a), 0, 0) i).2.2) o.1 (by omega)
      rw [show (4 * (ruN (sR a) p (mo (sR a) (sB a), 0, 0) i).2.1 + (ruN (sR a) p (mo (sR a) (sB a), 0, 0) i).2.2) / 4 = (ruN (sR a) p (mo (sR a) (sB a), 0, 0) i).2.1 by omega, show (4 * (ruN (sR a) p (mo (sR a) (sB a), 0, 0) i).2.1 + (ruN (sR a) p (mo (sR a) (sB a), 0, 0) i).2.2) % 4 = (ruN (sR a) p (mo (sR a) (sB a), 0, 0) i).2.2 by omega] at z1
      refine ⟨_, ?_, g2, z2, rfl⟩
      show K_M_strokesBy_L14 N (nI (p / 4)) (nI (p % 4)) (nI _) (nI _) (nI _) (nI i) g1 = _
      unfold K_M_strokesBy_L14
      rw [if_neg (fun q => by have := (nI_lt_iff (a := 60) (by omega) (by omega)).mp q; omega), goalStM hW hM hg1 o.1, bd_s, if_neg (show ¬ isG (sR a) ((ruN (sR a) p (mo (sR a) (sB a), 0, 0) i).1 % 384) = true from fun q => by rw [show ruP (sR a) p (mo (sR a) (sB a), 0, 0) i = true from q] at hP; exact absurd hP (by decide)), if_pos rfl, z1, bd2_s, byRM _ (by omega) _ o3, bd_s, byRM _ (by omega) _ o2, bd_s, show (1 : Int32) = nI 1 from rfl, nI_add, nm_s]
      rfl) (fun i s hi hJ hP => by
      obtain ⟨g1, hg1, hJ⟩ := hJ
      subst hJ
      have o := hzi i
      refine ⟨_, ?_, g1, hg1, rfl⟩
      show K_M_strokesBy_L14 N (nI (p / 4)) (nI (p % 4)) (nI _) (nI _) (nI _) (nI i) g1 = _
      unfold K_M_strokesBy_L14
      rw [if_neg (fun q => by have := (nI_lt_iff (a := 60) (by omega) (by omega)).mp q; omega), goalStM hW hM hg1 o.1, bd_s, if_pos (show isG (sR a) _ = true from hP), if_neg (by decide)]) (fun s hJ => by
      obtain ⟨g1, hg1, hJ⟩ := hJ
      subst hJ
      refine ⟨_, ?_, g1, hg1, rfl⟩
      show K_M_strokesBy_L14 N (nI (p / 4)) (nI (p % 4)) (nI _) (nI _) (nI _) (nI 61) g1 = _
      unfold K_M_strokesBy_L14
      rw [if_pos (by decide)]) ⟨g, hg, rfl⟩ (N := N) (by omega)
  rw [show loopN (fun z_ : Int32 × Int32 × Int32 × Int32 × Hp => K_M_strokesBy_L14 N (nI (p / 4)) (nI (p % 4)) z_.1 z_.2.1 z_.2.2.1 z_.2.2.2.1 z_.2.2.2.2) N (nI (eM (sR a) (mo (sR a) (sB a))), 0, 0, 0, g) = some t from l1, bd_s]
  rcases l2 with ⟨q1, g', q3, q2⟩ | ⟨q1, g', q3, q2⟩
  · rw [if_neg (by omega), q2]; exact ⟨g', rfl, q3⟩
  · rw [if_pos q1, q2]; exact ⟨g', rfl, q3⟩
def ruB (ρ : Rv) (m : Nat) : Nat → Nat × Nat
  | 0 => (61, 0)
  | i + 1 => if ruF ρ m i < (ruB ρ m i).1 then (ruF ρ m i, i) else ruB ρ m i
theorem ruB_b (ρ : Rv) (m : Nat) : ∀ i, (ruB ρ m i).1 ≤ 61 ∧ (ruB ρ m i).2 ≤ i
  | 0 => ⟨Nat.le_refl _, Nat.le_refl _⟩
  | i + 1 => by
    have h := ruB_b ρ m i
    show (if ruF ρ m i < (ruB ρ m i).1 then (ruF ρ m i, i) else ruB ρ m i).1 ≤ 61 ∧ (if ruF ρ m i < (ruB ρ m i).1 then (ruF ρ m i, i) else ruB ρ m i).2 ≤ i + 1
    split
    · exact ⟨by show ruF ρ m i ≤ 61; omega, by show i ≤ i + 1; omega⟩
    · omega
theorem MO_rules_ok (N : Nat) (hN : 200 < N) : MO_rules N Inv := by
  intro k b0 b1 h c hk H
  have H0 := H
  obtain ⟨a, hv, hC, hM, h4, h5⟩ := H
  have hW := hv.1
  have ex : ∀ v : Int32, K_C_rules N c h = some v → K_M_rules N c h = some (v, h) → ∃ (r : Int32) (h2 : Hp), K_C_rules N c h = some r ∧ K_M_rules N c h = some (r, h2) ∧ Inv (k + 1) b0 b1 (mx lM h2 h) := fun v e1 e2 => ⟨v, h, e1, e2, Inv_M (sameM_rf h) H0⟩
  by_cases cc : 0 ≤ c.toInt ∧ c.toInt ≤ 2
  · by_cases w : rW (sR a) = 0
    · refine ex (-1000000003) ?_ ?_
      · unfold K_C_rules
        rw [out2, bd_s, if_pos cc, if_pos rfl, noSquaresK hW hC.2.2.1.1, bd_s, if_pos w, if_neg (by decide)]
      · unfold K_M_rules
        rw [in2, bd_s, if_pos cc, if_neg (by decide), isNoneM hW hM.1, bd_s, if_pos w, if_neg (by decide)]
    · have e12 : hset h 100 12 0 = h := hset_id hM.2.1
      have lC : loopN (fun z_ : Int32 × Int32 × Int32 => K_C_rules_L29 N c z_.1 z_.2.1 z_.2.2 h) N (-1, -1, 0) = some (if (ruB (sR a) (mo (sR a) (sB a)) 16).1 = 61 then -1 else nI (ruB (sR a) (mo (sR a) (sB a)) 16).1, if (ruB (sR a) (mo (sR a) (sB a)) 16).1 = 61 then -1 else nI (ruB (sR a) (mo (sR a) (sB a)) 16).2) := by
        refine loopN_for _ (fun i => (if (ruB (sR a) (mo (sR a) (sB a)) i).1 = 61 then -1 else nI (ruB (sR a) (mo (sR a) (sB a)) i).1, if (ruB (sR a) (mo (sR a) (sB a)) i).1 = 61 then -1 else nI (ruB (sR a) (mo (sR a) (sB a)) i).2, nI i)) 16 _ (fun i hi => ?_) ?_ (by omega)
        · show K_C_rules_L29 N c _ _ (nI i) h = some (.inl (if (if ruF (sR a) (mo (sR a) (sB a)) i < (ruB (sR a) (mo (sR a) (sB a)) i).1 then (ruF (sR a) (mo (sR a) (sB a)) i, i) else ruB (sR a) (mo (sR a) (sB a)) i).1 = 61 then -1 else nI (if ruF (sR a) (mo (sR a) (sB a)) i < (ruB (sR a) (mo (sR a) (sB a)) i).1 then (ruF (sR a) (mo (sR a) (sB a)) i, i) else ruB (sR a) (mo (sR a) (sB a)) i).1, if (if ruF (sR a) (mo (sR a) (sB a)) i < (ruB (sR a) (mo (sR a) (sB a)) i).1 then (ruF (sR a) (mo (sR a) (sB a)) i, i) else ruB (sR a) (mo (sR a) (sB a)) i).1 = 61 then -1 else nI (if ruF (sR a) (mo (sR a) (sB a)) i < (ruB (sR a) (mo (sR a) (sB a)) i).1 then (ruF (sR a) (mo (sR a) (sB a)) i, i) else ruB (sR a) (mo (sR a) (sB a)) i).2, nI (i + 1)))
          have rl := fs_le (ruP (sR a) i (mo (sR a) (sB a), 0, 0)) 61
          have rl : ruF (sR a) (mo (sR a) (sB a)) i ≤ 61 := rl
          have rb := ruB_b (sR a) (mo (sR a) (sB a)) i
          unfold K_C_rules_L29
          rw [if_neg (fun q => by have := (nI_le_iff (a := 16) (by omega) (by omega)).mp q; omega), ruleC N hN (by omega) hv hC w hi, bd_s]
          generalize ruF (sR a) (mo (sR a) (sB a)) i = f at rl ⊢
          generalize ruB (sR a) (mo (sR a) (sB a)) i = z at rb ⊢
          obtain ⟨s, q⟩ := z
          have rb1 : s ≤ 61 := rb.1
          have rb2 : q ≤ i := rb.2
          have n1 : ∀ n, n ≤ 61 → nI n ≠ -1 := by decide
          show (if (if f = 61 then -1 else nI f) = -1 then nm (nI i + 1) (fun v67 => some (.inl (if s = 61 then -1 else nI s, if s = 61 then -1 else nI q, v67))) else if (if s = 61 then -1 else nI s) = -1 then K_C_rules_J61 N c (nI i) (if f = 61 then -1 else nI f) h else if (if s = 61 then -1 else nI s) ≤ (if f = 61 then -1 else nI f) then nm (nI i + 1) (fun v67 => some (.inl (if s = 61 then -1 else nI s, if s = 61 then -1 else nI q, v67))) else K_C_rules_J61 N c (nI i) (if f = 61 then -1 else nI f) h) = some (.inl (if (if f < s then (f, i) else (s, q)).1 = 61 then -1 else nI (if f < s then (f, i) else (s, q)).1, if (if f < s then (f, i) else (s, q)).1 = 61 then -1 else nI (if f < s then (f, i) else (s, q)).2, nI (i + 1)))
          unfold K_C_rules_J61
          rw [show nI i + 1 = nI (i + 1) from nI_add i 1, nm_s, nm_s]
          by_cases f6 : f = 61
          · rw [if_pos f6, if_pos rfl, if_neg (show ¬ f < s by omega)]
          · rw [if_neg f6, if_neg (n1 f rl)]
            by_cases s6 : s = 61
            · rw [if_pos s6, if_pos rfl, if_pos (show f < s by omega)]
              show _ = (some (.inl (if f = 61 then -1 else nI f, if f = 61 then -1 else nI i, nI (i + 1))) : Option ((Int32 × Int32 × Int32) ⊕ (Int32 × Int32)))
              rw [if_neg f6, if_neg f6]
            · rw [if_neg s6, if_neg (n1 s rb1)]
              by_cases fl : f < s
              · rw [if_neg (fun z => by have := (nI_le_iff (by omega) (by omega)).mp z; omega), if_pos fl]
                show _ = (some (.inl (if f = 61 then -1 else nI f, if f = 61 then -1 else nI i, nI (i + 1))) : Option ((Int32 × Int32 × Int32) ⊕ (Int32 × Int32)))
                rw [if_neg f6, if_neg f6]
              · rw [if_pos ((nI_le_iff (by omega) (by omega)).mpr (by omega)), if_neg fl]
                show _ = (some (.inl (if s = 61 then -1 else nI s, if s = 61 then -1 else nI q, nI (i + 1))) : Option ((Int32 × Int32 × Int32) ⊕ (Int32 × Int32)))
                rw [if_neg s6, if_neg s6]
        · show K_C_rules_L29 N c _ _ (nI 16) h = _
          unfold K_C_rules_L29
          rw [if_pos (by decide)]
      have lM : ∃ t, loopN (fun z_ : Int32 × Int32 × Int32 × Hp => K_M_rules_L38 N c z_.1 z_.2.1 z_.2.2.1 z_.2.2.2) N (0, 99999999, 0, h) = some t ∧ ∃ g, sameM h g ∧ t = (nI (ruB (sR a) (mo (sR a) (sB a)) 16).2, if (ruB (sR a) (mo (sR a) (sB a)) 16).1 = 61 then 99999999 else nI (ruB (sR a) (mo (sR a) (sB a)) 16).1, g) := by
        refine loopN_fx _ (fun i s => ∃ g, sameM h g ∧ s = (nI (ruB (sR a) (mo (sR a) (sB a)) i).2, if (ruB (sR a) (mo (sR a) (sB a)) i).1 = 61 then 99999999 else nI (ruB (sR a) (mo (sR a) (sB a)) i).1, nI i, g)) 16 _ (fun i s hi hJ => ?_) (fun s hJ => ?_) ⟨h, sameM_rf h, rfl⟩ (by omega)
        · obtain ⟨g, hg, hJ⟩ := hJ
          subst hJ
          obtain ⟨g2, z1, z2⟩ := ruleM N hN (by omega) hv hM hg w hi
          refine ⟨(nI (if ruF (sR a) (mo (sR a) (sB a)) i < (ruB (sR a) (mo (sR a) (sB a)) i).1 then (ruF (sR a) (mo (sR a) (sB a)) i, i) else ruB (sR a) (mo (sR a) (sB a)) i).2, if (if ruF (sR a) (mo (sR a) (sB a)) i < (ruB (sR a) (mo (sR a) (sB a)) i).1 then (ruF (sR a) (mo (sR a) (sB a)) i, i) else ruB (sR a) (mo (sR a) (sB a)) i).1 = 61 then 99999999 else nI (if ruF (sR a) (mo (sR a) (sB a)) i < (ruB (sR a) (mo (sR a) (sB a)) i).1 then (ruF (sR a) (mo (sR a) (sB a)) i, i) else ruB (sR a) (mo (sR a) (sB a)) i).1, nI (i + 1), g2), ?_, g2, z2, rfl⟩
          show K_M_rules_L38 N c _ _ (nI i) g = _
          have rl := fs_le (ruP (sR a) i (mo (sR a) (sB a), 0, 0)) 61
          have rl : ruF (sR a) (mo (sR a) (sB a)) i ≤ 61 := rl
          have rb := ruB_b (sR a) (mo (sR a) (sB a)) i
          unfold K_M_rules_L38
          rw [if_neg (fun q => by have := (nI_le_iff (a := 16) (by omega) (by omega)).mp q; omega), show (4 : Int32) = nI 4 from rfl, nI_div (by omega) (by omega) (by omega), nI_rem (by omega) (by omega) (by omega), z1, bd2_s]
          generalize ruF (sR a) (mo (sR a) (sB a)) i = f at rl ⊢
          generalize ruB (sR a) (mo (sR a) (sB a)) i = z at rb ⊢
          obtain ⟨s, q⟩ := z
          have rb1 : s ≤ 61 := rb.1
          have rb2 : q ≤ i := rb.2
          show (if (if s = 61 then 99999999 else nI s) ≤ (if f = 61 then 99999999 else nI f) then nm (nI i + 1) (fun v71 => some (.inl (nI q, if s = 61 then 99999999 else nI s, v71, g2))) else nm (nI i + 1) (fun v71 => some (.inl (nI i, if f = 61 then 99999999 else nI f, v71, g2))) : Option ((Int32 × Int32 × Int32 × Hp) ⊕ (Int32 × Int32 × Hp))) = some (.inl (nI (if f < s then (f, i) else (s, q)).2, if (if f < s then (f, i) else (s, q)).1 = 61 then 99999999 else nI (if f < s then (f, i) else (s, q)).1, nI (i + 1), g2))
          have fb : ∀ n, n ≤ 61 → nI n ≤ (99999999 : Int32) ∧ ¬ (99999999 : Int32) ≤ nI n := by decide
          rw [show nI i + 1 = nI (i + 1) from nI_add i 1, nm_s, nm_s]
          by_cases f6 : f = 61
          · rw [if_pos f6, if_neg (show ¬ f < s by omega)]
            rw [if_pos (show (if s = 61 then (99999999 : Int32) else nI s) ≤ 99999999 by split; decide; exact (fb s rb1).1)]
          · rw [if_neg f6]
            by_cases fl : f < s
            · rw [if_pos fl]
              show _ = (some (.inl (nI i, if f = 61 then 99999999 else nI f, nI (i + 1), g2)) : Option ((Int32 × Int32 × Int32 × Hp) ⊕ (Int32 × Int32 × Hp)))
              rw [if_neg f6, if_neg]
              split
              · exact (fb f rl).2
              · exact fun z => by have := (nI_le_iff (by omega) (by omega)).mp z; omega
            · rw [if_neg fl, if_neg (show ¬ s = 61 by omega), if_pos ((nI_le_iff (by omega) (by omega)).mpr (by omega))]
        · obtain ⟨g, hg, hJ⟩ := hJ
          subst hJ
          refine ⟨_, ?_, g, hg, rfl⟩
          show K_M_rules_L38 N c _ _ (nI 16) g = _
          unfold K_M_rules_L38
          rw [if_pos (by decide)]
      obtain ⟨t, l1, g, hg, l2⟩ := lM
      subst l2
      have kC : K_C_rules N c h = (if (ruB (sR a) (mo (sR a) (sB a)) 16).1 = 61 then some (-1) else if c = 0 then some (nI (ruB (sR a) (mo (sR a) (sB a)) 16).1) else if c = 1 then some (nI (ruB (sR a) (mo (sR a) (sB a)) 16).2 / 4) else some (rm32 (nI (ruB (sR a) (mo (sR a) (sB a)) 16).2) 4)) := by
        have rb := ruB_b (sR a) (mo (sR a) (sB a)) 16
        unfold K_C_rules
        rw [out2, bd_s, if_pos cc, if_pos rfl, noSquaresK hW hC.2.2.1.1, bd_s, if_neg w, if_pos rfl, lC, bd_s]
        generalize ruB (sR a) (mo (sR a) (sB a)) 16 = z at rb ⊢
        have n1 : ∀ n, n ≤ 61 → nI n ≠ -1 := by decide
        by_cases s6 : z.1 = 61
        · rw [if_pos s6, if_pos rfl, if_pos s6]
        · simp only [if_neg s6, if_neg (n1 _ rb.1)]
      have kM : K_M_rules N c h = (if (ruB (sR a) (mo (sR a) (sB a)) 16).1 = 61 then some (-1, g) else if c = 0 then some (nI (ruB (sR a) (mo (sR a) (sB a)) 16).1, g) else if c = 1 then some (nI (ruB (sR a) (mo (sR a) (sB a)) 16).2 / 4, g) else some (rm32 (nI (ruB (sR a) (mo (sR a) (sB a)) 16).2) 4, g)) := by
        have rb := ruB_b (sR a) (mo (sR a) (sB a)) 16
        unfold K_M_rules
        rw [in2, bd_s, if_pos cc, if_neg (by decide), isNoneM hW hM.1, bd_s, if_neg w, if_pos rfl, nm_s, e12, l1, bd_s]
        generalize ruB (sR a) (mo (sR a) (sB a)) 16 = z at rb ⊢
        have n1 : ∀ n, n ≤ 61 → nI n ≠ 99999999 := by decide
        by_cases s6 : z.1 = 61
        · rw [if_pos s6, if_pos rfl, if_pos s6]
        · simp only [if_neg s6, if_neg (n1 _ rb.1)]
      rw [kC, kM]
      have fin := Inv_M hg H0
      split
      · exact ⟨_, g, rfl, rfl, fin⟩
      · split
        · exact ⟨_, g, rfl, rfl, fin⟩
        · split
          · exact ⟨_, g, rfl, rfl, fin⟩
          · exact ⟨_, g, rfl, rfl, fin⟩
  · refine ex (-1000000002) ?_ ?_
    · unfold K_C_rules
      rw [out2, bd_s, if_neg cc, if_neg (by decide)]
    · unfold K_M_rules
      rw [in2, bd_s, if_neg cc, if_pos rfl]
/-! judge -/
def juN (ρ : Rv) (bk : List (Nat × Nat)) (m : Nat) : Nat → Nat
  | 0 => m
  | i + 1 => aft ρ 0 (juN ρ bk m i) (bk.getD i (0, 0)).1
theorem juN_ok {ρ : Rv} (hW : WF ρ) (bk : List (Nat × Nat)) {m : Nat} (h : okM ρ m) : ∀ i, okM ρ (juN ρ bk m i) := by
  intro i
  induction i with
  | zero => exact h
  | succ i ih => exact aft_ok hW ih
def juP (ρ : Rv) (bk : List (Nat × Nat)) (m i : Nat) : Bool := decide (juN ρ bk m (i + 1) % 384 / 8 ≠ (bk.getD i (0, 0)).2)
theorem getD_mem2 {l : List (Nat × Nat)} {j : Nat} (h : j < l.length) : l.getD j (0, 0) ∈ l := by
  rw [List.getD_eq_getElem?_getD, List.getElem?_eq_getElem h]
  exact List.getElem_mem h
theorem MO_judge_ok (N : Nat) (hN : 200 < N) : MO_judge N Inv := by
  intro k b0 b1 h hk H
  have H0 := H
  obtain ⟨a, hv, hC, hM, h4, h5⟩ := H
  have hW := hv.1
  by_cases w : rW (sR a) = 0
  · refine ⟨-1000000003, h, ?_, ?_, Inv_M (sameM_rf h) H0⟩
    · unfold K_C_judge
      rw [noSquaresK hW hC.2.2.1.1, bd_s, if_pos w, if_neg (by decide)]
    · unfold K_M_judge
      rw [isNoneM hW hM.1, bd_s, if_pos w, if_neg (by decide)]
  · have e12 : hset h 100 12 0 = h := hset_id hM.2.1
    have hE := hv.2.2.2.2.2.1
    have hl : (sE a).length ≤ 20 := hE.1
    have cE := hC.2.2.2.2.2.2.1
    have hm0 := mo_ok hW hv.2.2.1.1 w
    have hji := juN_ok hW (sE a) hm0
    have hem : ∀ i, i < (sE a).length → ((sE a).getD i (0, 0)).1 < 16 ∧ inR (sR a) ((sE a).getD i (0, 0)).2 := fun i hi => hE.2 _ (getD_mem2 hi)
    obtain ⟨t, l1, l2⟩ := loopN_fs (fun z_ : Int32 × Int32 => K_Lines_firstWrong_L5 N z_.1 z_.2 h) (fun i s => s = (nI (juN (sR a) (sE a) (mo (sR a) (sB a)) i), nI i)) (juP (sR a) (sE a) (mo (sR a) (sB a))) (sE a).length (fun i t => t = .inl (nI i)) (fun t => t = .inr ()) (fun i s hi hJ hP => by
        subst hJ
        obtain ⟨p1, p2⟩ := hem i hi
        have ol := okM_lt hW (hji (i + 1))
        refine ⟨_, ?_, rfl⟩
        show K_Lines_firstWrong_L5 N (nI _) (nI i) h = _
        unfold K_Lines_firstWrong_L5
        rw [cE.1, if_neg (fun q => by have := (nI_le_iff (by omega) (by omega)).mp q; omega), if_neg (fun q => by have := (nI_le_iff (a := 20) (by omega) (by omega)).mp q; omega), if_neg (fun q => by have := (nI_le_iff (a := 20) (by omega) (by omega)).mp q; omega), gA_nI (by omega) (by omega), (cE.2 i hi).1, stepC hW hC (hji i) p1, bd_s]
        show bd (K_C_squareOf (nI (juN (sR a) (sE a) (mo (sR a) (sB a)) (i + 1)))) _ = _
        have e := of_decide_eq_false hP
        have e : juN (sR a) (sE a) (mo (sR a) (sB a)) (i + 1) % 384 / 8 = ((sE a).getD i (0, 0)).2 := Decidable.not_not.mp e
        rw [squareOfK (by omega), bd_s, gA_nI (by omega) (by omega), (cE.2 i hi).2, e, if_pos rfl, show (1 : Int32) = nI 1 from rfl, nI_add, nm_s]
        rfl) (fun i s hi hJ hP => by
        subst hJ
        obtain ⟨p1, p2⟩ := hem i hi
        have ol := okM_lt hW (hji (i + 1))
        have sl := inR_lt hW p2
        refine ⟨_, ?_, rfl⟩
        show K_Lines_firstWrong_L5 N (nI _) (nI i) h = _
        unfold K_Lines_firstWrong_L5
        rw [cE.1, if_neg (fun q => by have := (nI_le_iff (by omega) (by omega)).mp q; omega), if_neg (fun q => by have := (nI_le_iff (a := 20) (by omega) (by omega)).mp q; omega), if_neg (fun q => by have := (nI_le_iff (a := 20) (by omega) (by omega)).mp q; omega), gA_nI (by omega) (by omega), (cE.2 i hi).1, stepC hW hC (hji i) p1, bd_s]
        show bd (K_C_squareOf (nI (juN (sR a) (sE a) (mo (sR a) (sB a)) (i + 1)))) _ = _
        have e := of_decide_eq_true hP
        rw [squareOfK (by omega), bd_s, gA_nI (by omega) (by omega), (cE.2 i hi).2, if_neg (fun q => e ((nI_eq_iff (by omega) (by omega)).mp q))]) (fun s hJ => by
        subst hJ
        refine ⟨_, ?_, rfl⟩
        show K_Lines_firstWrong_L5 N (nI _) (nI (sE a).length) h = _
        unfold K_Lines_firstWrong_L5
        rw [cE.1, if_pos ((nI_le_iff (by omega) (by omega)).mpr (Nat.le_refl _))]) (s0 := (nI (mo (sR a) (sB a)), 0)) rfl (N := N) (by omega)
    have kC : K_C_judge N h = some (if fs (juP (sR a) (sE a) (mo (sR a) (sB a))) (sE a).length = (sE a).length then -1 else nI (fs (juP (sR a) (sE a) (mo (sR a) (sB a))) (sE a).length)) := by
      unfold K_C_judge K_Lines_firstWrong
      rw [noSquaresK hW hC.2.2.1.1, bd_s, if_neg w, if_pos rfl, momentK (by omega) hv hC, bd_s, l1, bd_s]
      rcases l2 with ⟨q1, q2⟩ | ⟨q1, q2⟩
      · rw [if_neg (by omega), q2]; rfl
      · rw [if_pos q1, q2]; rfl
    obtain ⟨t2, m1, m2⟩ := loopN_fs (fun z_ : Int32 × Int32 × Hp => K_M_judge_L22 N z_.1 z_.2.1 z_.2.2) (fun i s => ∃ g, sameM h g ∧ s = (nI (eM (sR a) (juN (sR a) (sE a) (mo (sR a) (sB a)) i)), nI i, g)) (juP (sR a) (sE a) (mo (sR a) (sB a))) (sE a).length (fun i t => ∃ g, sameM h g ∧ t = .inl (nI i, g)) (fun t => ∃ g, sameM h g ∧ t = .inr g) (fun i s hi hJ hP => by
        obtain ⟨g, hg, hJ⟩ := hJ
        subst hJ
        obtain ⟨p1, p2⟩ := hem i hi
        have qI := (IM_keep hM hg).1
        have mE := qI.2.2.2.2.2.2.2.1
        obtain ⟨g2, z1, z2, z3⟩ := stepM hW N hN hM hg (hji i) p1
        have q2 := (IM_keep hM z2).1
        have mE2 := q2.2.2.2.2.2.2.2.1
        have tb := tmv_b hW
        obtain ⟨d1, d2⟩ := eM_q hW (hji (i + 1))
        have hs := okS_in hW (hji (i + 1)).2
        have hcl := cM_lt hW hs
        refine ⟨_, ?_, g2, z2, rfl⟩
        show K_M_judge_L22 N (nI _) (nI i) g = _
        unfold K_M_judge_L22
        have e := of_decide_eq_false hP
        have e : juN (sR a) (sE a) (mo (sR a) (sB a)) (i + 1) % 384 / 8 = ((sE a).getD i (0, 0)).2 := Decidable.not_not.mp e
        rw [mE.1, if_neg (fun q => by have := (nI_le_iff (by omega) (by omega)).mp q; omega), gA_nI (by omega) (by omega), gA_nI (by omega) (by omega), (mE.2 i hi).1, show (4 : Int32) = nI 4 from rfl, nI_div (by omega) (by omega) (by omega), nI_rem (by omega) (by omega) (by omega), z1, bd2_s, timesM hW q2.1, bd_s, dz_nI (by omega) (by omega), gA_nI (by omega) (by omega), (mE2.2 i hi).2]
        show (if nI (eM (sR a) (juN (sR a) (sE a) (mo (sR a) (sB a)) (i + 1))) / nI (tmv (sR a)) / 8 = _ then _ else _) = _
        rw [d1, show (8 : Int32) = nI 8 from rfl, nI_div (by omega) (by omega) (by omega), show (8 * cM (sR a) (juN (sR a) (sE a) (mo (sR a) (sB a)) (i + 1) % 384 / 8) + juN (sR a) (sE a) (mo (sR a) (sB a)) (i + 1) % 8) / 8 = cM (sR a) (juN (sR a) (sE a) (mo (sR a) (sB a)) (i + 1) % 384 / 8) by omega, e, if_pos rfl, show (1 : Int32) = nI 1 from rfl, nI_add, nm_s]
        rfl) (fun i s hi hJ hP => by
        obtain ⟨g, hg, hJ⟩ := hJ
        subst hJ
        obtain ⟨p1, p2⟩ := hem i hi
        have qI := (IM_keep hM hg).1
        have mE := qI.2.2.2.2.2.2.2.1
        obtain ⟨g2, z1, z2, z3⟩ := stepM hW N hN hM hg (hji i) p1
        have q2 := (IM_keep hM z2).1
        have mE2 := q2.2.2.2.2.2.2.2.1
        have tb := tmv_b hW
        obtain ⟨d1, d2⟩ := eM_q hW (hji (i + 1))
        have hs := okS_in hW (hji (i + 1)).2
        have hcl := cM_lt hW hs
        have hcl2 := cM_lt hW p2
        refine ⟨_, ?_, g2, z2, rfl⟩
        show K_M_judge_L22 N (nI _) (nI i) g = _
        unfold K_M_judge_L22
        have e := of_decide_eq_true hP
        rw [mE.1, if_neg (fun q => by have := (nI_le_iff (by omega) (by omega)).mp q; omega), gA_nI (by omega) (by omega), gA_nI (by omega) (by omega), (mE.2 i hi).1, show (4 : Int32) = nI 4 from rfl, nI_div (by omega) (by omega) (by omega), nI_rem (by omega) (by omega) (by omega), z1, bd2_s, timesM hW q2.1, bd_s, dz_nI (by omega) (by omega), gA_nI (by omega) (by omega), (mE2.2 i hi).2]
        show (if nI (eM (sR a) (juN (sR a) (sE a) (mo (sR a) (sB a)) (i + 1))) / nI (tmv (sR a)) / 8 = _ then _ else _) = _
        rw [d1, show (8 : Int32) = nI 8 from rfl, nI_div (by omega) (by omega) (by omega), show (8 * cM (sR a) (juN (sR a) (sE a) (mo (sR a) (sB a)) (i + 1) % 384 / 8) + juN (sR a) (sE a) (mo (sR a) (sB a)) (i + 1) % 8) / 8 = cM (sR a) (juN (sR a) (sE a) (mo (sR a) (sB a)) (i + 1) % 384 / 8) by omega, if_neg (fun q => e (cM_inj hW hs p2 ((nI_eq_iff (by omega) (by omega)).mp q)))]) (fun s hJ => by
        obtain ⟨g, hg, hJ⟩ := hJ
        subst hJ
        have qI := (IM_keep hM hg).1
        have mE := qI.2.2.2.2.2.2.2.1
        refine ⟨_, ?_, g, hg, rfl⟩
        show K_M_judge_L22 N (nI _) (nI (sE a).length) g = _
        unfold K_M_judge_L22
        rw [mE.1, if_pos ((nI_le_iff (by omega) (by omega)).mpr (Nat.le_refl _))]) (s0 := (nI (eM (sR a) (mo (sR a) (sB a))), 0, h)) ⟨h, sameM_rf h, rfl⟩ (N := N) (by omega)
    have kM : ∃ g, K_M_judge N h = some (if fs (juP (sR a) (sE a) (mo (sR a) (sB a))) (sE a).length = (sE a).length then -1 else nI (fs (juP (sR a) (sE a) (mo (sR a) (sB a))) (sE a).length), g) ∧ sameM h g := by
      unfold K_M_judge
      rw [isNoneM hW hM.1, bd_s, if_neg w, if_pos rfl, nm_s, e12, stateNowM (by omega) hv hM w, bd_s, m1, bd_s]
      rcases m2 with ⟨q1, g, q3, q2⟩ | ⟨q1, g, q3, q2⟩
      · rw [if_neg (by omega), q2]; exact ⟨g, rfl, q3⟩
      · rw [if_pos q1, q2]; exact ⟨g, rfl, q3⟩
    obtain ⟨g, k1, k2⟩ := kM
    exact ⟨_, g, kC, k1, Inv_M k2 H0⟩

/-! one stroke of the boat, on both sides -/
def mo (ρ : Rv) (b : Nat × Nat × Nat) : Nat := 384 * (b.2.1 % tmv ρ) + b.1
theorem mo_parts {ρ : Rv} (hW : WF ρ) {b : Nat × Nat × Nat} (hu : b.1 < 384) : mo ρ b / 384 = b.2.1 % tmv ρ ∧ mo ρ b % 384 = b.1 ∧ mo ρ b / 384 < tmv ρ ∧ mo ρ b % 384 / 8 = b.1 / 8 ∧ mo ρ b % 8 = b.1 % 8 ∧ mo ρ b < 3456 := by
  have t := tmv_b hW
  have l := Nat.mod_lt b.2.1 (show 0 < tmv ρ by omega)
  unfold mo
  refine ⟨?_, ?_, ?_, ?_, ?_, ?_⟩ <;> omega
theorem mo_ok {ρ : Rv} (hW : WF ρ) {b : Nat × Nat × Nat} (h : okU ρ b.1) (w : rW ρ ≠ 0) : okM ρ (mo ρ b) := by
  have p := mo_parts hW h.1
  exact ⟨p.2.2.1, by rw [p.2.2.2.1]; exact h.2.2 w⟩
theorem momentK {k : Nat} {a : St} {h : Hp} (hk : k ≤ 64) (hv : VS k a) (hC : IC k a h) : K_C_moment h = some (nI (mo (sR a) (sB a))) := by
  have hW := hv.1
  have t := tmv_b hW
  have u := hv.2.2.1.1.1
  have n := hv.2.2.1.2.1
  have l := Nat.mod_lt (sB a).2.1 (show 0 < tmv (sR a) by omega)
  unfold K_C_moment K_Waters_timeBehind
  rw [hC.2.2.1.2.1.1, hC.2.2.2.1.2.1, hC.2.2.2.1.1, max1K t.1 (by omega), dz_nI (by omega) (by omega), nI_rem (by omega) (by omega) (by omega), bd_s, show (384 : Int32) = nI 384 from rfl, nI_mul, nI_add]
  unfold mo
  exact congrArg (fun q => some (nI q)) (by omega)
theorem stateNowM {k : Nat} {a : St} {h : Hp} (hk : k ≤ 64) (hv : VS k a) (hM : IM a h) (w : rW (sR a) ≠ 0) : K_M_stateNow h = some (nI (eM (sR a) (mo (sR a) (sB a)))) := by
  have hW := hv.1
  have n := hv.2.2.1.2.1
  have ho := hv.2.2.1.1
  have hs := okS_in hW (ho.2.2 w)
  have mB := hM.2.2.2.2.1
  unfold K_M_stateNow
  rw [gA_lit (x := 0) (i := 0) rfl (by omega) (by omega), mB.1, gA_lit (x := 1) (i := 1) rfl (by omega) (by omega), show h 101 1 = _ from mB.2.1, gA_lit (x := 2) (i := 2) rfl (by omega) (by omega), show h 101 2 = _ from mB.2.2.1, stateOfM hW hM.1 hs (by omega) (by omega), bd_s]
  unfold mo
  rw [show 8 * ((sB a).1 / 8) + (sB a).1 % 8 = (sB a).1 by omega]
/-- the state after the pair p -/
def aP (a : St) (p : Nat) : St := aL (aB a (aft (sR a) 0 (mo (sR a) (sB a)) p % 384, (sB a).2.1 + 1, (sB a).2.2)) (((sB a).1 :: sL a).take 50)
theorem take_len {l : List Nat} {c : Nat} : ((c :: l).take 50).length = min 50 (l.length + 1) := by rw [List.length_take]; rfl
theorem take_get {l : List Nat} {c j : Nat} (h : j < 50) : ((c :: l).take 50).getD j 0 = if j = 0 then c else l.getD (j - 1) 0 := by
  cases j with
  | zero => rfl
  | succ j =>
    rw [if_neg (by omega)]
    show ((c :: l).take 50)[j + 1]?.getD 0 = l[j + 1 - 1]?.getD 0
    rw [List.getElem?_take, if_pos h]
    rfl
theorem VS_aP {k k' : Nat} {a : St} (hv : VS k a) (hk : k ≤ k') (n : (sB a).2.1 + 1 ≤ 99 * k') (w : rW (sR a) ≠ 0) (p : Nat) : VS k' (aP a p) := by
  have hW := hv.1
  have v := VS_mono hk hv
  have ho := hv.2.2.1.1
  have m := aft_ok hW (kn := 0) (p := p) (mo_ok hW ho w)
  have pt := mo_parts hW ho.1
  refine ⟨v.1, v.2.1, ⟨⟨by show _ % 384 < 384; omega, fun z => absurd z w, fun _ => m.2⟩, n, v.2.2.1.2.2⟩, ⟨?_, ?_, ?_⟩, v.2.2.2.2⟩
  · show ((_ :: sL a).take 50).length ≤ 50
    rw [take_len]; omega
  · show ((_ :: sL a).take 50).length ≤ (sB a).2.1 + 1
    have := v.2.2.2.1.2.1
    rw [take_len]; omega
  · intro u hu
    have := List.mem_of_mem_take (show u ∈ ((_ :: sL a).take 50) from hu)
    rcases List.mem_cons.mp this with z | z
    · rw [z]; exact ho
    · exact v.2.2.2.1.2.2 u z
theorem paddleC {k : Nat} {a : St} {h : Hp} (hk : k ≤ 64) (hv : VS k a) (hC : IC k a h) {p : Nat} (hp : p < 16) : ∃ h1, K_C_paddle (nI p) h = some h1 ∧ IC k (aP a p) h1 ∧ ∀ r, r ∉ [30, 35, 36] → h1 r = h r := by
  have hW := hv.1
  have u := hv.2.2.1.1.1
  have n := hv.2.2.1.2.1
  have pt := mo_parts hW u
  have hl := aft_lt (kn := 0) (p := p) pt.2.2.1 hW
  have ll := hv.2.2.2.1.1
  obtain ⟨nx, hn, e1, e2, e3⟩ := hC.2.2.2.2.1
  let g1 := hset h 36 nx (nI (sB a).1)
  let g2 := hset g1 35 1 (nI ((nx + 1) % 50))
  let g3 := hset g2 35 2 (nI (min 50 ((sL a).length + 1)))
  let g4 := hset g3 30 0 (nI (aft (sR a) 0 (mo (sR a) (sB a)) p % 384))
  let g5 := hset g4 30 1 (nI ((sB a).2.1 + 1))
  have o3 : ∀ r, r ∉ [35, 36] → g3 r = h r := fun r z => by simp only [g3, g2, g1]; rw [hset_ne _ _ _ (ne_of_nm z (by decide)), hset_ne _ _ _ (ne_of_nm z (by decide)), hset_ne _ _ _ (ne_of_nm z (by decide))]
  have o5 : ∀ r, r ∉ [30, 35, 36] → g5 r = h r := fun r z => by simp only [g5, g4]; rw [hset_ne _ _ _ (ne_of_nm z (by decide)), hset_ne _ _ _ (ne_of_nm z (by decide)), o3 r (nm_sub (by decide) z)]
  have p5 : ∀ r, r ≠ 30 → g5 r = g3 r := fun r z => by simp only [g5, g4]; rw [hset_ne _ _ _ z, hset_ne _ _ _ z]
  have hadd : K_Log_add (nI (sB a).1) h = some g3 := by
    unfold K_Log_add K_Log_add_J29
    have k50 : (50 : Int32) ≤ nI nx ↔ 50 ≤ nx := nI_le_iff (a := 50) (by omega) (by omega)
    have q1 : g1 35 1 = nI nx := by simp only [g1]; rw [hset_ne _ _ _ (by decide)]; exact e1
    have q2 : g2 35 2 = nI (sL a).length := by simp only [g2, g1]; rw [hset_at, upd_ne _ _ (by decide), hset_ne _ _ _ (by decide)]; exact e2
    rw [e1, if_neg (nI_not_neg (by omega)), if_neg (fun z => by have := k50.mp z; omega), sA_nI hn (by omega), nI_cl (by omega), nm_s]
    show nm (hset g1 35 1 (rm32 (g1 35 1 + 1) 50)) _ = _
    rw [q1, show (1 : Int32) = nI 1 from rfl, nI_add, show (50 : Int32) = nI 50 from rfl, nI_rem (by omega) (by omega) (by omega), nm_s]
    show nm (hset g2 35 2 (if nI 50 < g2 35 2 + nI 1 then nI 50 else g2 35 2 + nI 1)) _ = _
    rw [q2, nI_add]
    have k5 : nI 50 < nI ((sL a).length + 1) ↔ 50 < (sL a).length + 1 := nI_lt_iff (by omega) (by omega)
    by_cases c : 50 < (sL a).length + 1
    · rw [if_pos (k5.mpr c), nm_s, show nI 50 = nI (min 50 ((sL a).length + 1)) from congrArg nI (by omega)]
    · rw [if_neg (fun z => c (k5.mp z)), nm_s, show nI ((sL a).length + 1) = nI (min 50 ((sL a).length + 1)) from congrArg nI (by omega)]
  refine ⟨g5, ?_, ?_, o5⟩
  · unfold K_C_paddle
    have q3 : g3 30 = h 30 := o3 _ (by decide)
    have q4 : g4 30 1 = nI (sB a).2.1 := by simp only [g4]; rw [hset_at, upd_ne _ _ (by decide), q3]; exact hC.2.2.2.1.2.1
    rw [momentK hk hv hC, bd_s, afterK hW hC.2.2.1.2.1 (by omega) hC.2.2.1.2.2 pt.2.2.1 hp, bd_s, hC.2.2.2.1.1, hadd, bd_s, nm_s, mx_eq (fun r z => o3 r z), show (384 : Int32) = nI 384 from rfl, nI_rem (by omega) (by omega) (by omega), nm_s]
    show nm (hset g4 30 1 (g4 30 1 + 1)) _ = _
    rw [q4, show (1 : Int32) = nI 1 from rfl, nI_add, nm_s]
  · refine IC_up (Nat.le_refl _) hC [30, 35, 36] (fun r _ z => o5 r z) (c4 := .inr ⟨?_, ?_, ?_⟩) (c5 := .inr ⟨(nx + 1) % 50, Nat.mod_lt _ (by omega), ?_, ?_, fun j hj => ?_⟩)
    · simp only [g5, g4]; rw [hset_at, upd_ne _ _ (by decide), hset_at, upd_at]; rfl
    · simp only [g5]; rw [hset_at, upd_at]; rfl
    · simp only [g5, g4]; rw [hset_at, upd_ne _ _ (by decide), hset_at, upd_ne _ _ (by decide), o3 _ (by decide)]; exact hC.2.2.2.1.2.2
    · rw [p5 _ (by decide)]; simp only [g3, g2]; rw [hset_at, upd_ne _ _ (by decide), hset_at, upd_at]
    · rw [p5 _ (by decide)]; simp only [g3]; rw [hset_at, upd_at]
      show _ = nI ((_ :: sL a).take 50).length
      rw [take_len]
    · have hj' : j < min 50 ((sL a).length + 1) := by
        have q : (sL (aP a p)).length = min 50 ((sL a).length + 1) := take_len
        omega
      show _ = nI ((((sB a).1 :: sL a).take 50).getD j 0)
      rw [take_get (by omega), p5 _ (by decide)]
      simp only [g3, g2, g1]
      rw [hset_ne _ _ _ (by decide), hset_ne _ _ _ (by decide), hset_at]
      by_cases c : j = 0
      · rw [if_pos c, show ((nx + 1) % 50 + 49 - j) % 50 = nx by omega, upd_at]
      · rw [if_neg c, upd_ne _ _ (by omega), show ((nx + 1) % 50 + 49 - j) % 50 = (nx + 49 - (j - 1)) % 50 by omega]
        exact e3 (j - 1) (by omega)
